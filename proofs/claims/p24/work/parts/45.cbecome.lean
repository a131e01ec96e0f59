/-- nothing but what ok, okA, okB allow has changed -/
def GZ (ok : Nat → Nat → Prop) (okA okB : Nat → Prop) (σ τ : St) : Prop := hpN σ ≤ hpN τ ∧ (∀ a, a < hpN σ → hpK τ a = hpK σ a ∧ hpL τ a = hpL σ a ∧ (∀ f, hpR τ f a = hpR σ f a) ∧ (∀ f, ¬ ok f a → hpJ τ f a = hpJ σ f a) ∧ (∀ j, ¬ okA a → hpA τ a j = hpA σ a j) ∧ (∀ j, ¬ okB a → hpB τ a j = hpB σ a j) ∧ ∀ f, ¬ ok f a → hpI τ f a = hpI σ f a) ∧ ∀ i, hpG τ i = hpG σ i
theorem GZ_refl (ok : Nat → Nat → Prop) (okA okB : Nat → Prop) (σ : St) : GZ ok okA okB σ σ := ⟨Nat.le_refl _, fun _ _ => ⟨rfl, rfl, fun _ => rfl, fun _ _ => rfl, fun _ _ => rfl, fun _ _ => rfl, fun _ _ => rfl⟩, fun _ => rfl⟩
theorem GZ_trans {ok : Nat → Nat → Prop} {okA okB : Nat → Prop} {σ τ ρ : St} (h : GZ ok okA okB σ τ) (g : GZ ok okA okB τ ρ) : GZ ok okA okB σ ρ := by
  refine ⟨Nat.le_trans h.1 g.1, fun a ha => ?_, fun i => (g.2.2 i).trans (h.2.2 i)⟩
  obtain ⟨a1, a2, a3, a4, a5, a6, a7⟩ := h.2.1 a ha
  obtain ⟨b1, b2, b3, b4, b5, b6, b7⟩ := g.2.1 a (Nat.lt_of_lt_of_le ha h.1)
  exact ⟨b1.trans a1, b2.trans a2, fun f => (b3 f).trans (a3 f), fun f x => (b4 f x).trans (a4 f x), fun j x => (b5 j x).trans (a5 j x), fun j x => (b6 j x).trans (a6 j x), fun f x => (b7 f x).trans (a7 f x)⟩
theorem GZ_mono {ok ok' : Nat → Nat → Prop} {okA okB okA' okB' : Nat → Prop} {σ τ : St} (h : GZ ok okA okB σ τ) (g : ∀ f a, ok f a → ok' f a) (gA : ∀ a, okA a → okA' a) (gB : ∀ a, okB a → okB' a) : GZ ok' okA' okB' σ τ := by
  refine ⟨h.1, fun a ha => ?_, h.2.2⟩
  obtain ⟨a1, a2, a3, a4, a5, a6, a7⟩ := h.2.1 a ha
  exact ⟨a1, a2, a3, fun f x => a4 f (fun y => x (g f a y)), fun j x => a5 j (fun y => x (gA a y)), fun j x => a6 j (fun y => x (gB a y)), fun f x => a7 f (fun y => x (g f a y))⟩
theorem GZ_FZ {ok : Nat → Nat → Prop} {okB : Nat → Prop} {σ τ : St} (h : FZ ok okB σ τ) : GZ ok (fun _ => False) okB σ τ := by
  refine ⟨h.1, fun a ha => ?_, h.2.2⟩
  obtain ⟨a1, a2, a3, a4, a5, a6, a7, a8⟩ := h.2.1 a ha
  exact ⟨a1, a2, a3, fun f _ => a4 f, fun j _ => a5 j, fun j x => a7 j x, a8⟩
theorem GZ_AG {σ τ : St} (h : AG (hpN σ) σ τ) (hn : hpN σ ≤ hpN τ) : GZ (fun _ _ => False) (fun _ => False) (fun _ => False) σ τ := by
  refine ⟨hn, fun a ha => ?_, h.2⟩
  obtain ⟨a1, a2, a3, a4, a5, a6, a7⟩ := h.1 a ha
  exact ⟨a1, a2, a4, fun f _ => a5 f, fun j _ => a6 j, fun j _ => a7 j, fun f _ => a3 f⟩
theorem hI_of {σ : St} {f0 a0 f a : Nat} {v : Int32} (h : ¬ (f = f0 ∧ a = a0)) : hpI (stI σ f0 a0 v) f a = hpI σ f a := by rw [hIw, if_neg h]
theorem GZ_stI {ok : Nat → Nat → Prop} {okA okB : Nat → Prop} {σ τ : St} (h : GZ ok okA okB σ τ) (f0 a0 : Nat) (v : Int32) (g : ok f0 a0) : GZ ok okA okB σ (stI τ f0 a0 v) := by
  refine ⟨h.1, fun a ha => ?_, h.2.2⟩
  obtain ⟨a1, a2, a3, a4, a5, a6, a7⟩ := h.2.1 a ha
  refine ⟨a1, a2, a3, a4, a5, a6, fun f x => ?_⟩
  rw [hI_of (fun y => x (by rw [y.1, y.2]; exact g))]; exact a7 f x
theorem hBw (σ : St) (a0 j0 : Nat) (v : Option Nat) (a j : Nat) : hpB (stB σ a0 j0 v) a j = if a = a0 ∧ j = j0 then v else hpB σ a j := by
  have h := hpB_stB σ a0 j0 v a j
  rw [h]
theorem hAw (σ : St) (a0 j0 : Nat) (v : Int32) (a j : Nat) : hpA (stA σ a0 j0 v) a j = if a = a0 ∧ j = j0 then v else hpA σ a j := by
  have h := hpA_stA σ a0 j0 v a j
  rw [h]
theorem GZ_stB {ok : Nat → Nat → Prop} {okA okB : Nat → Prop} {σ τ : St} (h : GZ ok okA okB σ τ) (a0 j0 : Nat) (v : Option Nat) (g : okB a0) : GZ ok okA okB σ (stB τ a0 j0 v) := by
  refine ⟨h.1, fun a ha => ?_, h.2.2⟩
  obtain ⟨a1, a2, a3, a4, a5, a6, a7⟩ := h.2.1 a ha
  refine ⟨a1, a2, a3, a4, a5, fun j x => ?_, a7⟩
  rw [hBw, if_neg (fun y => x (by rw [y.1]; exact g))]; exact a6 j x
theorem GZ_stA {ok : Nat → Nat → Prop} {okA okB : Nat → Prop} {σ τ : St} (h : GZ ok okA okB σ τ) (a0 j0 : Nat) (v : Int32) (g : okA a0) : GZ ok okA okB σ (stA τ a0 j0 v) := by
  refine ⟨h.1, fun a ha => ?_, h.2.2⟩
  obtain ⟨a1, a2, a3, a4, a5, a6, a7⟩ := h.2.1 a ha
  refine ⟨a1, a2, a3, a4, fun j x => ?_, a6, a7⟩
  rw [hAw, if_neg (fun y => x (by rw [y.1]; exact g))]; exact a5 j x
/-- the shape of a poem's object; a poem whose lines lie from b on -/
def PoS (σ : St) (p : Nat) : Prop := hpK σ p = 5 ∧ p + 3 ≤ hpN σ ∧ hpR σ 160 p = some (p + 1) ∧ hpK σ (p + 1) = 14 ∧ hpL σ (p + 1) = 24 ∧ hpR σ 161 p = some (p + 2) ∧ hpK σ (p + 2) = 13 ∧ hpL σ (p + 2) = 5
def LoB (b : Nat) (σ : St) (a : Nat) : Prop := ∀ w, hpR σ 64 a = some w → b ≤ w
def PoB (b : Nat) (σ : St) (p : Nat) (P : PoT) : Prop := CP σ p P ∧ ∀ k a, k < P.2.1 → hpB σ (p + 1) k = some a → LoB b σ a
theorem PoS_GZ {ok : Nat → Nat → Prop} {okA okB : Nat → Prop} {σ τ : St} {p : Nat} (h : PoS σ p) (g : GZ ok okA okB σ τ) : PoS τ p := by
  obtain ⟨h1, h2, h3, h4, h5, h6, h7, h8⟩ := h
  obtain ⟨a1, a2, a3, a4, a5, a6, a7⟩ := g.2.1 p (by omega)
  obtain ⟨b1, b2, b3, b4, b5, b6, b7⟩ := g.2.1 (p + 1) (by omega)
  obtain ⟨c1, c2, c3, c4, c5, c6, c7⟩ := g.2.1 (p + 2) (by omega)
  exact ⟨a1.trans h1, Nat.le_trans h2 g.1, (a3 _).trans h3, b1.trans h4, b2.trans h5, (a3 _).trans h6, c1.trans h7, c2.trans h8⟩
theorem CW_GZ {ok : Nat → Nat → Prop} {okA okB : Nat → Prop} {σ τ : St} {w len cnt lt : Nat} {B : Nat → Int32} {E : Nat → Nat} (h : CW σ w len cnt lt B E) (g : GZ ok okA okB σ τ) (hw : w + 2 < hpN σ) (hk : ∀ f a, 288 ≤ f → f < 320 → ¬ ok f a) (hA : ∀ a, w ≤ a → ¬ okA a) : CW τ w len cnt lt B E := by
  obtain ⟨h1, h2, h3, h4, h5, h6, h7, h8, h9, h10, h11, h12⟩ := h
  obtain ⟨a1, a2, a3, a4, a5, a6, a7⟩ := g.2.1 w (by omega)
  obtain ⟨b1, b2, b3, b4, b5, b6, b7⟩ := g.2.1 (w + 1) (by omega)
  obtain ⟨c1, c2, c3, c4, c5, c6, c7⟩ := g.2.1 (w + 2) (by omega)
  exact ⟨a1.trans h1, (a3 _).trans h2, b1.trans h3, b2.trans h4, (a3 _).trans h5, c1.trans h6, c2.trans h7, (a7 290 (hk _ _ (by decide) (by decide))).trans h8, (a7 291 (hk _ _ (by decide) (by decide))).trans h9, (a7 292 (hk _ _ (by decide) (by decide))).trans h10, fun j hj => (b5 j (hA _ (by omega))).trans (h11 j hj), fun j hj => (c5 j (hA _ (by omega))).trans (h12 j hj)⟩
theorem CLn_GZ {ok : Nat → Nat → Prop} {okA okB : Nat → Prop} {σ τ : St} {a b : Nat} {l : LnT} (h : CLn σ a l) (hb : LoB b σ a) (g : GZ ok okA okB σ τ) (ha : a < hpN σ) (hk : ∀ f a, (64 ≤ f ∧ f < 96) ∨ (288 ≤ f ∧ f < 320) → ¬ ok f a) (hA : ∀ a, b ≤ a → ¬ okA a) : CLn τ a l ∧ LoB b τ a := by
  obtain ⟨h1, ⟨w, w1, w2, w3⟩, h3, h4, h5⟩ := h
  obtain ⟨a1, a2, a3, a4, a5, a6, a7⟩ := g.2.1 a ha
  have hbw := hb w w2
  refine ⟨⟨a1.trans h1, ⟨w, w1, (a3 _).trans w2, CW_GZ w3 g (by omega) (fun f a x y => hk f a (Or.inr ⟨x, y⟩)) (fun a x => hA a (by omega))⟩, (a7 65 (hk _ _ (Or.inl ⟨by decide, by decide⟩))).trans h3, (a7 66 (hk _ _ (Or.inl ⟨by decide, by decide⟩))).trans h4, (a7 67 (hk _ _ (Or.inl ⟨by decide, by decide⟩))).trans h5⟩, fun w' hw' => hb w' ((a3 64).symm.trans hw')⟩
theorem PoB_GZ {ok : Nat → Nat → Prop} {okA okB : Nat → Prop} {σ τ : St} {p b : Nat} {P : PoT} (h : PoB b σ p P) (g : GZ ok okA okB σ τ) (hk : ∀ f a, (64 ≤ f ∧ f < 96) ∨ (288 ≤ f ∧ f < 320) → ¬ ok f a) (hA : ∀ a, b ≤ a → ¬ okA a) (h1 : ¬ ok 162 p) (h2 : ¬ okA (p + 2)) (h3 : ¬ okB (p + 1)) : PoB b τ p P := by
  obtain ⟨⟨hs, h9, h10, h11, h12⟩, hb⟩ := h
  have hN := hs.2.1
  have eB : ∀ j, hpB τ (p + 1) j = hpB σ (p + 1) j := fun j => (g.2.1 (p + 1) (by omega)).2.2.2.2.2.1 j h3
  refine ⟨⟨PoS_GZ hs g, ((g.2.1 p (by omega)).2.2.2.2.2.2 162 h1).trans h9, h10, fun k hk' => ?_, fun i hi => ((g.2.1 (p + 2) (by omega)).2.2.2.2.1 i h2).trans (h12 i hi)⟩, fun k a hk' ha => ?_⟩
  · obtain ⟨a, d1, d2, d3⟩ := h11 k hk'
    exact ⟨a, (eB k).trans d1, Nat.lt_of_lt_of_le d2 g.1, (CLn_GZ d3 (hb k a hk' d1) g d2 hk hA).1⟩
  · obtain ⟨a', d1, d2, d3⟩ := h11 k hk'
    rw [eB k, d1] at ha; cases ha
    exact (CLn_GZ d3 (hb k a hk' d1) g d2 hk hA).2
theorem SZ_refl (σ : St) : SZ σ σ := ⟨rfl, rfl, rfl⟩
theorem SZ_trans {σ τ ρ : St} (h : SZ σ τ) (g : SZ τ ρ) : SZ σ ρ := ⟨g.1.trans h.1, g.2.1.trans h.2.1, g.2.2.trans h.2.2⟩
/-- what a poem's own writes may change -/
def okO (p f a : Nat) : Prop := f = 162 ∧ a = p
theorem okO_l (p : Nat) : ∀ f a, (64 ≤ f ∧ f < 96) ∨ (288 ≤ f ∧ f < 320) → ¬ okO p f a := fun f a x y => by have := y.1; omega
theorem c_lnB {σ : St} {p : Nat} {P : PoT} (h : CP σ p P) (v : Nat) : f_X5_lineAt σ p (zI v) = some (if v < P.2.1 then hpB σ (p + 1) v else none) ∨ 2147483647 < v := by
  by_cases hv : v ≤ 2147483647
  · left
    rw [c_lineAt h v (by omega) (by omega)]
    by_cases q : v < P.2.1
    · rw [if_pos ⟨by omega, by omega⟩, if_pos q]; rfl
    · rw [if_neg (by omega), if_neg q]
  · right; omega
theorem c_lnD {σ : St} {p v : Nat} {P : PoT} (h : CP σ p P) : dm σ 2 (if v < P.2.1 then hpB σ (p + 1) v else none) = some (if v < P.2.1 then hpB σ (p + 1) v else none) := by
  by_cases q : v < P.2.1
  · obtain ⟨a, d1, d2, d3⟩ := h.2.2.2.1 v q
    rw [if_pos q, d1]; exact dm_eq1 d3.1
  · rw [if_neg q]; rfl
theorem c_bl10 {σ : St} {p q b : Nat} {P : PoT} (hs : PoS σ p) (hq : PoB b σ q P) (hne : p + 3 ≤ q ∨ q + 3 ≤ p) (hpb : p + 3 ≤ b) : ∀ (d v : Nat) (τ : St) (f : Nat), v + d = 24 → d < f → GZ (okO p) (oB p 2) (oB p 1) σ τ → SZ σ τ → hpI τ 162 p = zI P.2.1 → (∀ j, j < v → hpB τ (p + 1) j = if j < P.2.1 then hpB σ (q + 1) j else none) →
    ∃ τ', LX5_becomeLike_10 f p (some q) (zI v) τ = some τ' ∧ GZ (okO p) (oB p 2) (oB p 1) σ τ' ∧ SZ σ τ' ∧ hpI τ' 162 p = zI P.2.1 ∧ ∀ j, j < 24 → hpB τ' (p + 1) j = if j < P.2.1 then hpB σ (q + 1) j else none := by
  intro d
  induction d with
  | zero =>
    intro v τ f h1 h2 g sz hc hb
    obtain ⟨f, rfl⟩ : ∃ f', f = f' + 1 := ⟨f - 1, by omega⟩
    obtain ⟨t1, t2, t3, t4, t5, t6, t7, t8⟩ := PoS_GZ hs g
    refine ⟨τ, ?_, g, sz, hc, fun j hj => hb j (by omega)⟩
    rw [LX5_becomeLike_10, dn_eq t1, bnd, t3, dn_eq t4, bnd, t5, nI_z, if_pos ((zN_le (by omega) (by omega)).mpr (by omega))]
  | succ d ih =>
    intro v τ f h1 h2 g sz hc hb
    obtain ⟨f, rfl⟩ : ∃ f', f = f' + 1 := ⟨f - 1, by omega⟩
    obtain ⟨t1, t2, t3, t4, t5, t6, t7, t8⟩ := PoS_GZ hs g
    have hq' : PoB b τ q P := PoB_GZ hq g (okO_l p) (fun a ha x => by unfold oB at x; omega) (fun x => by have := x.2; omega) (fun x => by unfold oB at x; omega) (fun x => by unfold oB at x; omega)
    have hN := hq.1.1.2.1
    have eB : hpB τ (q + 1) v = hpB σ (q + 1) v := (g.2.1 (q + 1) (by omega)).2.2.2.2.2.1 v (fun x => by unfold oB at x; omega)
    have e1 : f_X5_lineAt τ q (zI v) = some (if v < P.2.1 then hpB τ (q + 1) v else none) := (c_lnB hq'.1 v).resolve_right (by omega)
    have e2 := c_lnD (v := v) hq'.1
    obtain ⟨τ', r1, r2, r3, r4, r5⟩ := ih (v + 1) (stB τ (p + 1) v (if v < P.2.1 then hpB τ (q + 1) v else none)) f (by omega) (by omega) (GZ_stB g (p + 1) v _ rfl) sz hc (fun j hj => by
      rw [hBw]
      by_cases y : j = v
      · rw [if_pos ⟨rfl, y⟩, y, eB]
      · rw [if_neg (fun x => y x.2)]; exact hb j (by omega))
    refine ⟨τ', ?_, r2, r3, r4, r5⟩
    rw [LX5_becomeLike_10, dn_eq t1, bnd, t3, dn_eq t4, bnd, t5, nI_z, if_neg (fun x => by have := (zN_le (by omega) (by omega)).mp x; omega), dn_eq hq'.1.1.1, bnd, e1, bnd, ix_l _ _ (by omega) (by omega), bnd, e2, bnd, zN_add1]
    exact r1
theorem c_bl38 {σ : St} {p q b : Nat} {P : PoT} (hs : PoS σ p) (hq : PoB b σ q P) (hne : p + 3 ≤ q ∨ q + 3 ≤ p) (hpb : p + 3 ≤ b) : ∀ (d v : Nat) (τ : St) (f : Nat), v + d = 5 → d < f → GZ (okO p) (oB p 2) (oB p 1) σ τ → SZ σ τ → hpI τ 162 p = zI P.2.1 → (∀ j, j < 24 → hpB τ (p + 1) j = if j < P.2.1 then hpB σ (q + 1) j else none) → (∀ j, j < v → hpA τ (p + 2) j = zI (P.2.2 j)) →
    ∃ τ', LX5_becomeLike_38 f p (some q) (zI v) τ = some τ' ∧ GZ (okO p) (oB p 2) (oB p 1) σ τ' ∧ SZ σ τ' ∧ hpI τ' 162 p = zI P.2.1 ∧ (∀ j, j < 24 → hpB τ' (p + 1) j = if j < P.2.1 then hpB σ (q + 1) j else none) ∧ ∀ j, j < 5 → hpA τ' (p + 2) j = zI (P.2.2 j) := by
  intro d
  induction d with
  | zero =>
    intro v τ f h1 h2 g sz hc hb hA
    obtain ⟨f, rfl⟩ : ∃ f', f = f' + 1 := ⟨f - 1, by omega⟩
    obtain ⟨t1, t2, t3, t4, t5, t6, t7, t8⟩ := PoS_GZ hs g
    refine ⟨τ, ?_, g, sz, hc, hb, fun j hj => hA j (by omega)⟩
    rw [LX5_becomeLike_38, dn_eq t1, bnd, t6, dnA_eq t7, bnd, t8, nI_z, if_pos ((zN_le (by omega) (by omega)).mpr (by omega))]
  | succ d ih =>
    intro v τ f h1 h2 g sz hc hb hA
    obtain ⟨f, rfl⟩ : ∃ f', f = f' + 1 := ⟨f - 1, by omega⟩
    obtain ⟨t1, t2, t3, t4, t5, t6, t7, t8⟩ := PoS_GZ hs g
    have hq' : PoB b τ q P := PoB_GZ hq g (okO_l p) (fun a ha x => by unfold oB at x; omega) (fun x => by have := x.2; omega) (fun x => by unfold oB at x; omega) (fun x => by unfold oB at x; omega)
    obtain ⟨τ', r1, r2, r3, r4, r5, r6⟩ := ih (v + 1) (stA τ (p + 2) v (zI (P.2.2 v))) f (by omega) (by omega) (GZ_stA g (p + 2) v _ rfl) sz hc hb (fun j hj => by
      rw [hAw]
      by_cases y : j = v
      · rw [if_pos ⟨rfl, y⟩, y]
      · rw [if_neg (fun x => y x.2)]; exact hA j (by omega))
    refine ⟨τ', ?_, r2, r3, r4, r5, r6⟩
    rw [LX5_becomeLike_38, dn_eq t1, bnd, t6, dnA_eq t7, bnd, t8, nI_z, if_neg (fun x => by have := (zN_le (by omega) (by omega)).mp x; omega), dn_eq hq'.1.1.1, bnd, c_setting hq'.1 (by omega), bnd, dn_eq t7, bnd, t8, ix_l _ _ (by omega) (by omega), bnd, zN_add1]
    exact r1
theorem c_becomeLike {σ : St} {p q b : Nat} {P : PoT} (hs : PoS σ p) (hq : PoB b σ q P) (hne : p + 3 ≤ q ∨ q + 3 ≤ p) (hpb : p + 3 ≤ b) :
    ∃ τ, f_X5_becomeLike σ p (some q) = some τ ∧ PoB b τ p P ∧ GZ (okO p) (oB p 2) (oB p 1) σ τ ∧ SZ σ τ := by
  have g0 : GZ (okO p) (oB p 2) (oB p 1) σ (stI σ 162 p (zI P.2.1)) := GZ_stI (GZ_refl _ _ _ _) 162 p _ ⟨rfl, rfl⟩
  obtain ⟨τ1, a1, a2, a3, a4, a5⟩ := c_bl10 hs hq hne hpb 24 0 (stI σ 162 p (zI P.2.1)) FU (by omega) (by simp only [FU]; omega) g0 (SZ_refl _) hI_e (fun j hj => absurd hj (Nat.not_lt_zero j))
  obtain ⟨τ, b1, b2, b3, b4, b5, b6⟩ := c_bl38 hs hq hne hpb 5 0 τ1 FU (by omega) (by simp only [FU]; omega) a2 a3 a4 a5 (fun j hj => absurd hj (Nat.not_lt_zero j))
  have hn := hq.1.2.2.1
  have a1' : LX5_becomeLike_10 FU p (some q) 0 (stI σ 162 p (zI P.2.1)) = some τ1 := a1
  have b1' : LX5_becomeLike_38 FU p (some q) 0 τ1 = some τ := b1
  have hl : ∀ k, k < P.2.1 → ∃ a, hpB σ (q + 1) k = some a ∧ a < hpN τ ∧ CLn τ a (P.1 k) ∧ LoB b τ a := fun k hk => by
    obtain ⟨a, d1, d2, d3⟩ := hq.1.2.2.2.1 k hk
    obtain ⟨e1, e2⟩ := CLn_GZ d3 (hq.2 k a hk d1) b2 d2 (okO_l p) (fun a ha x => by unfold oB at x; omega)
    exact ⟨a, d1, Nat.lt_of_lt_of_le d2 b2.1, e1, e2⟩
  refine ⟨τ, by rw [f_X5_becomeLike, dn_eq hq.1.1.1, bnd, hq.1.2.1, a1', bnd, b1', bnd], ⟨⟨PoS_GZ hs b2, b4, hn, fun k hk => ?_, b6⟩, fun k a hk ha => ?_⟩, b2, b3⟩
  · obtain ⟨a, d1, d2, d3, d4⟩ := hl k hk
    exact ⟨a, by rw [b5 k (by omega), if_pos hk]; exact d1, d2, d3⟩
  · obtain ⟨a', d1, d2, d3, d4⟩ := hl k hk
    rw [b5 k (by omega), if_pos hk, d1] at ha; cases ha; exact d4


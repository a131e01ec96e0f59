/-- the class's history at h: hs its states, c of them -/
def HiB (b : Nat) (σ : St) (h : Nat) (hs : Nat → PoT) (c : Nat) : Prop := (hpK σ h = 0 ∧ hpR σ 0 h = some (h + 1) ∧ hpK σ (h + 1) = 17 ∧ hpL σ (h + 1) = 8 ∧ h + 26 ≤ hpN σ ∧ h + 26 ≤ b) ∧ hpI σ 1 h = zI c ∧ c ≤ 8 ∧ (∀ i, i < 8 → PoS σ (h + 2 + 3 * i)) ∧ ∃ π : Nat → Nat, (∀ i, i < 8 → π i < 8) ∧ (∀ i j, i < 8 → j < 8 → π i = π j → i = j) ∧ (∀ i, i < 8 → hpB σ (h + 1) i = some (h + 2 + 3 * π i)) ∧ ∀ i, i < c → PoB b σ (h + 2 + 3 * π i) (hs i)
/-- what the history's calls may change -/
def okH (h f a : Nat) : Prop := (f = 1 ∧ a = h) ∨ (f = 162 ∧ h + 2 ≤ a ∧ a < h + 26)
def okHA (h a : Nat) : Prop := h + 2 ≤ a ∧ a < h + 26
def okHB (h a : Nat) : Prop := h + 1 ≤ a ∧ a < h + 26
theorem c_stateAt {b : Nat} {σ : St} {h c i : Nat} {hs : Nat → PoT} (H : HiB b σ h hs c) (hi : i < 8) : f_X0_stateAt σ h (zI i) = some (hpB σ (h + 1) i) := by
  obtain ⟨⟨h1, h2, h3, h4, h5, h6⟩, -⟩ := H
  rw [f_X0_stateAt, if_neg (zN_lt0 _ (by omega)), h2, dn_eq h3, bnd, h4, nI_z, if_pos ((zN_lt (by omega) (by omega)).mpr hi), ix_l _ _ hi (by omega), bnd]
theorem c_drop8 {σ : St} {h : Nat} {o : Option Nat} (h1 : hpK σ h = 0) (h2 : hpR σ 0 h = some (h + 1)) (h3 : hpK σ (h + 1) = 17) (h4 : hpL σ (h + 1) = 8) (h5 : h + 2 ≤ hpN σ) (hk : ∀ i, i < 8 → ∃ a, hpB σ (h + 1) i = some a ∧ hpK σ a = 5 ∧ a < hpN σ) : ∀ (d v : Nat) (τ : St) (f : Nat), v + d = 8 → 1 ≤ v → d < f → GZ (fun _ _ => False) (fun _ => False) (oB h 1) σ τ → SZ σ τ → (∀ j, j < 8 → hpB τ (h + 1) j = if j < v - 1 then hpB σ (h + 1) (j + 1) else hpB σ (h + 1) j) →
    ∃ ρ, LX0_dropOldest_8 f h o (zI v) τ = some ρ ∧ GZ (fun _ _ => False) (fun _ => False) (oB h 1) σ ρ ∧ SZ σ ρ ∧ ∀ j, j < 8 → hpB ρ (h + 1) j = if j < 7 then hpB σ (h + 1) (j + 1) else hpB σ (h + 1) j := by
  intro d
  induction d with
  | zero =>
    intro v τ f e1 e2 e3 g sz hb
    obtain ⟨f, rfl⟩ : ∃ f1, f = f1 + 1 := ⟨f - 1, by omega⟩
    obtain ⟨a1, a2, a3, a4, a5, a6, a7⟩ := g.2.1 h (by omega)
    obtain ⟨b1, b2, b3, b4, b5, b6, b7⟩ := g.2.1 (h + 1) (by omega)
    have ev : v = 8 := by omega
    subst ev
    refine ⟨τ, ?_, g, sz, fun j hj => hb j hj⟩
    rw [LX0_dropOldest_8, dn_eq (a1.trans h1), bnd, (a3 0).trans h2, dn_eq (b1.trans h3), bnd, b2.trans h4, if_pos (by decide)]
  | succ d ih =>
    intro v τ f e1 e2 e3 g sz hb
    obtain ⟨f, rfl⟩ : ∃ f1, f = f1 + 1 := ⟨f - 1, by omega⟩
    obtain ⟨a1, a2, a3, a4, a5, a6, a7⟩ := g.2.1 h (by omega)
    obtain ⟨b1, b2, b3, b4, b5, b6, b7⟩ := g.2.1 (h + 1) (by omega)
    obtain ⟨a, c1, c2, c3⟩ := hk v (by omega)
    have hv : hpB τ (h + 1) v = some a := by rw [hb v (by omega), if_neg (by omega)]; exact c1
    have hka : hpK τ a = 5 := (g.2.1 a c3).1.trans c2
    obtain ⟨ρ, r1, r2, r3, r4⟩ := ih (v + 1) (stB τ (h + 1) (v - 1) (some a)) f (by omega) (by omega) (by omega) (GZ_stB g (h + 1) (v - 1) _ rfl) sz (fun j hj => by
      rw [hBw]
      by_cases y : j = v - 1
      · rw [if_pos ⟨rfl, y⟩, if_pos (by omega), y, show v - 1 + 1 = v by omega]; exact c1.symm
      · rw [if_neg (fun x => y x.2), hb j hj]
        by_cases z : j < v - 1
        · rw [if_pos z, if_pos (by omega)]
        · rw [if_neg z, if_neg (by omega)])
    refine ⟨ρ, ?_, r2, r3, r4⟩
    rw [LX0_dropOldest_8, dn_eq (a1.trans h1), bnd, (a3 0).trans h2, dn_eq (b1.trans h3), bnd, b2.trans h4, if_neg (fun x => by have := (zN_le (a := 8) (by omega) (by omega)).mp x; omega), ix_l _ _ (by omega) (by omega), bnd, zN_sub1 (by omega), ix_l _ _ (by omega) (by omega), bnd, hv, dm_eq1 hka, bnd, zN_add1]
    exact r1
/-- the oldest one is dropped -/
theorem c_dropOldest {b : Nat} {σ : St} {h : Nat} {hs : Nat → PoT} (H : HiB b σ h hs 8) :
    ∃ τ, f_X0_dropOldest σ h = some τ ∧ HiB b τ h (fun i => hs (i + 1)) 7 ∧ GZ (okH h) (okHA h) (okHB h) σ τ ∧ SZ σ τ := by
  obtain ⟨⟨h1, h2, h3, h4, h5, h6⟩, h7, h8, h9, π, p1, p2, p3, p4⟩ := id H
  have e0 : f_X0_stateAt σ h 0 = some (hpB σ (h + 1) 0) := c_stateAt (i := 0) H (by decide)
  obtain ⟨τ, a1, a2, a3, a4⟩ := c_drop8 (o := hpB σ (h + 1) 0) h1 h2 h3 h4 (by omega) (fun i hi => ⟨_, p3 i hi, (h9 _ (p1 i hi)).1, by have := (h9 _ (p1 i hi)).2.1; omega⟩) 7 1 σ FU (by omega) (Nat.le_refl 1) (by simp only [FU]; omega) (GZ_refl _ _ _ _) (SZ_refl _) (fun j hj => by rw [if_neg (by omega)])
  have a1x : LX0_dropOldest_8 FU h (hpB σ (h + 1) 0) 1 σ = some τ := a1
  obtain ⟨b1, b2, b3, b4, b5, b6, b7⟩ := a2.2.1 h (by omega)
  obtain ⟨c1, c2, c3, c4, c5, c6, c7⟩ := a2.2.1 (h + 1) (by omega)
  have hk0 : hpK τ (h + 2 + 3 * π 0) = 5 := (a2.2.1 _ (by have := (h9 _ (p1 0 (by decide))).2.1; omega)).1.trans (h9 _ (p1 0 (by decide))).1
  have g2 : GZ (okH h) (okHA h) (okHB h) σ (stI (stB τ (h + 1) 7 (some (h + 2 + 3 * π 0))) 1 h (zI ((7 : Nat) : Int))) := GZ_stI (GZ_stB (GZ_mono a2 (fun _ _ x => x.elim) (fun _ x => x.elim) (fun a x => by unfold oB at x; unfold okHB; omega)) (h + 1) 7 _ (by unfold okHB; omega)) 1 h _ (Or.inl ⟨rfl, rfl⟩)
  have k1 : hpI (stB τ (h + 1) 7 (some (h + 2 + 3 * π 0))) 1 h = zI ((8 : Nat) : Int) := (b7 1 (fun x => x)).trans h7
  have g3 : GZ (fun f a => f = 1 ∧ a = h) (fun _ => False) (oB h 1) σ (stI (stB τ (h + 1) 7 (some (h + 2 + 3 * π 0))) 1 h (zI ((7 : Nat) : Int))) := GZ_stI (GZ_stB (GZ_mono a2 (fun _ _ x => x.elim) (fun _ x => x.elim) (fun a x => x)) (h + 1) 7 _ rfl) 1 h _ ⟨rfl, rfl⟩
  refine ⟨stI (stB τ (h + 1) 7 (some (h + 2 + 3 * π 0))) 1 h (zI ((7 : Nat) : Int)), ?_, ⟨⟨b1.trans h1, (b3 0).trans h2, c1.trans h3, c2.trans h4, Nat.le_trans h5 g2.1, h6⟩, hI_e, by decide, fun i hi => PoS_GZ (h9 i hi) g2, fun i => if i = 7 then π 0 else π (i + 1), fun i hi => ?_, fun i j hi hj e => ?_, fun i hi => ?_, fun i hi => ?_⟩, g2, a3⟩
  · have d1 : dn τ 17 (some (h + 1)) = some (h + 1) := dn_eq (c1.trans h3)
    rw [f_X0_dropOldest, e0, bnd, a1x, bnd, dn_eq (b1.trans h1), bnd, (b3 0).trans h2, d1, bnd, c2.trans h4, if_neg (by decide), show nI 8 - 1 = zI ((7 : Nat) : Int) from rfl, ix_l 8 7 (by decide) (by decide), bnd, p3 0 (by decide), dm_eq1 hk0, bnd, bnd, dn_eq (show hpK (stB τ (h + 1) 7 (some (h + 2 + 3 * π 0))) h = 0 from b1.trans h1), bnd, k1]
    rfl
  · show (if i = 7 then π 0 else π (i + 1)) < 8
    split
    · exact p1 0 (by decide)
    · exact p1 (i + 1) (by omega)
  · have e1 : (if i = 7 then π 0 else π (i + 1)) = (if j = 7 then π 0 else π (j + 1)) := e
    split at e1
    · split at e1
      · omega
      · have := p2 0 (j + 1) (by decide) (by omega) e1; omega
    · split at e1
      · have := p2 (i + 1) 0 (by omega) (by decide) e1; omega
      · have := p2 (i + 1) (j + 1) (by omega) (by omega) e1; omega
  · show hpB (stB τ (h + 1) 7 (some (h + 2 + 3 * π 0))) (h + 1) i = some (h + 2 + 3 * (if i = 7 then π 0 else π (i + 1)))
    rw [hBw]
    by_cases y : i = 7
    · rw [if_pos ⟨rfl, y⟩, if_pos y]
    · rw [if_neg (fun x => y x.2), if_neg y, a4 i hi, if_pos (by omega)]; exact p3 (i + 1) (by omega)
  · have e1 : (if i = 7 then π 0 else π (i + 1)) = π (i + 1) := if_neg (by omega)
    show PoB b _ (h + 2 + 3 * (if i = 7 then π 0 else π (i + 1))) (hs (i + 1))
    rw [e1]
    exact PoB_GZ (p4 (i + 1) (by omega)) g3 (fun f a x y => by omega) (fun a _ x => x) (fun x => by omega) (fun x => x) (fun x => by unfold oB at x; omega)
/-- a state more -/
theorem c_keepState {b p : Nat} {σ : St} {h c : Nat} {hs : Nat → PoT} {P : PoT} (H : HiB b σ h hs c) (hp : PoB b σ p P) (hph : p + 3 ≤ h) :
    ∃ τ, f_X0_keepState σ h (some p) = some τ ∧ HiB b τ h (hsK hs c P) (cK c) ∧ GZ (okH h) (okHA h) (okHB h) σ τ ∧ SZ σ τ := by
  obtain ⟨⟨h1, h2, h3, h4, h5, h6⟩, h7, h8, h9, -⟩ := id H
  obtain ⟨τ1, hs1, c1, t1, t2, t3, t4, t5, t6, t7⟩ : ∃ τ1 hs1 c1, (if (hpI σ 1 h) < (nI (hpL σ (h + 1))) then some σ else (f_X0_dropOldest σ h).bind fun q5 => some q5) = some τ1 ∧ HiB b τ1 h hs1 c1 ∧ c1 < 8 ∧ GZ (okH h) (okHA h) (okHB h) σ τ1 ∧ SZ σ τ1 ∧ cK c = c1 + 1 ∧ ∀ i, hsK hs c P i = if i = c1 then P else hs1 i := by
    by_cases q : c = 8
    · subst q
      obtain ⟨τ, a1, a2, a3, a4⟩ := c_dropOldest H
      refine ⟨τ, _, 7, ?_, a2, by decide, a3, a4, rfl, fun i => ?_⟩
      · rw [h7, h4, if_neg (by decide), a1, bnd]
      · rw [hsK, if_pos rfl]
    · refine ⟨σ, hs, c, ?_, H, by omega, GZ_refl _ _ _ _, SZ_refl _, by rw [cK, if_neg q], fun i => ?_⟩
      · rw [h7, h4, nI_z, if_pos ((zN_lt (by omega) (by omega)).mpr (by omega))]
      · rw [hsK, if_neg q]
  obtain ⟨⟨g1, g2, g3, g4, g5, g6⟩, g7, g8, g9, π, p1, p2, p3, p4⟩ := id t2
  have hp1 : PoB b τ1 p P := PoB_GZ hp t4 (fun f a x y => by unfold okH at y; omega) (fun a ha x => by unfold okHA at x; omega) (fun x => by unfold okH at x; omega) (fun x => by unfold okHA at x; omega) (fun x => by unfold okHB at x; omega)
  have hq : h + 2 + 3 * π c1 < h + 26 := by have := p1 c1 t3; omega
  have hpi := p1 c1 t3
  obtain ⟨τ2, a1, a2, a3, a4⟩ := c_becomeLike (p := h + 2 + 3 * π c1) (g9 _ hpi) hp1 (Or.inr (by omega)) (by omega)
  obtain ⟨b1, b2, b3, b4, b5, b6, b7⟩ := a3.2.1 h (by omega)
  obtain ⟨d1, d2, d3, d4, d5, d6, d7⟩ := a3.2.1 (h + 1) (by omega)
  have k1 : hpI τ2 1 h = zI c1 := (b7 1 (fun x => by unfold okO at x; omega)).trans g7
  have G : GZ (okH h) (okHA h) (okHB h) τ1 (stI τ2 1 h (zI ((c1 + 1 : Nat) : Int))) := GZ_stI (GZ_mono a3 (fun f a x => Or.inr (by unfold okO at x; omega)) (fun a x => by unfold oB at x; unfold okHA; omega) (fun a x => by unfold oB at x; unfold okHB; omega)) 1 h _ (Or.inl ⟨rfl, rfl⟩)
  have G1 : GZ (fun f a => f = 1 ∧ a = h) (fun _ => False) (fun _ => False) τ2 (stI τ2 1 h (zI ((c1 + 1 : Nat) : Int))) := GZ_stI (GZ_refl _ _ _ _) 1 h _ ⟨rfl, rfl⟩
  refine ⟨stI τ2 1 h (zI ((c1 + 1 : Nat) : Int)), ?_, ?_, GZ_trans t4 G, SZ_trans t5 a4⟩
  · have kk : hpK τ1 (h + 2 + 3 * π c1) = 5 := (g9 _ hpi).1
    rw [f_X0_keepState, h2, dn_eq h3, bnd, t1, bnd, dn_eq g1, bnd, g7, c_stateAt t2 t3, p3 c1 t3, bnd, if_neg (by simp), dn_eq kk, bnd, a1, bnd, dn_eq (b1.trans g1), bnd, k1, zN_add1]
  · rw [t6]
    refine ⟨⟨b1.trans g1, (b3 0).trans g2, d1.trans g3, d2.trans g4, Nat.le_trans g5 a3.1, g6⟩, hI_e, by omega, fun i hi => PoS_GZ (g9 i hi) G, π, p1, p2, fun i hi => (d6 i (fun x => by unfold oB at x; omega)).trans (p3 i hi), fun i hi => ?_⟩
    rw [t7 i]
    by_cases q : i = c1
    · subst q
      rw [if_pos rfl]
      exact PoB_GZ a2 G1 (fun f a x y => by omega) (fun a _ x => x) (fun x => by omega) (fun x => x) (fun x => x)
    · have ne : π i ≠ π c1 := fun x => q (p2 i c1 (by omega) t3 x)
      have hi8 := p1 i (by omega)
      rw [if_neg q]
      exact PoB_GZ (PoB_GZ (p4 i (by omega)) a3 (okO_l _) (fun a ha x => by unfold oB at x; omega) (fun x => by unfold okO at x; omega) (fun x => by unfold oB at x; omega) (fun x => by unfold oB at x; omega)) G1 (fun f a x y => by omega) (fun a _ x => x) (fun x => by omega) (fun x => x) (fun x => x)

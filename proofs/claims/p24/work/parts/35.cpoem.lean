def CLn (σ : St) (a : Nat) (l : LnT) : Prop := CL σ a (nLen l) (nCnt l) (nLt l) (nSt l) (nHf l) (nLa l) (nB l) (nE l)
/-- the class's poem at p is P -/
def CP (σ : St) (p : Nat) (P : PoT) : Prop := (hpK σ p = 5 ∧ p + 3 ≤ hpN σ ∧ hpR σ 160 p = some (p + 1) ∧ hpK σ (p + 1) = 14 ∧ hpL σ (p + 1) = 24 ∧ hpR σ 161 p = some (p + 2) ∧ hpK σ (p + 2) = 13 ∧ hpL σ (p + 2) = 5) ∧ hpI σ 162 p = zI P.2.1 ∧ P.2.1 ≤ 24 ∧ (∀ k, k < P.2.1 → ∃ a, hpB σ (p + 1) k = some a ∧ a < hpN σ ∧ CLn σ a (P.1 k)) ∧ ∀ i, i < 5 → hpA σ (p + 2) i = zI (P.2.2 i)
theorem CLn_FZ {ok : Nat → Nat → Prop} {okB : Nat → Prop} {σ τ : St} {a : Nat} {l : LnT} (h : CLn σ a l) (g : FZ ok okB σ τ) (ha : a < hpN σ) (hk : ∀ f a, 256 ≤ f → ¬ ok f a) (hk2 : ∀ f a, 64 ≤ f → f < 96 → ¬ ok f a) : CLn τ a l := by
  obtain ⟨h1, ⟨w, w1, w2, w3⟩, h3, h4, h5⟩ := h
  obtain ⟨a1, a2, a3, a4, a5, a6, a7, a8⟩ := g.2.1 a ha
  exact ⟨a1.trans h1, ⟨w, w1, (a3 _).trans w2, CW_FZ w3 g (by omega) hk⟩, (a8 65 (hk2 _ _ (by decide) (by decide))).trans h3, (a8 66 (hk2 _ _ (by decide) (by decide))).trans h4, (a8 67 (hk2 _ _ (by decide) (by decide))).trans h5⟩
theorem CP_FZ {ok : Nat → Nat → Prop} {okB : Nat → Prop} {σ τ : St} {p : Nat} {P : PoT} (h : CP σ p P) (g : FZ ok okB σ τ) (hk : ∀ f a, 256 ≤ f → ¬ ok f a) (hk2 : ∀ f a, 64 ≤ f → f < 96 → ¬ ok f a) (hk3 : ¬ ok 162 p) : CP τ p P := by
  obtain ⟨⟨h1, h2, h3, h4, h5, h6, h7, h8⟩, h9, h10, h11, h12⟩ := h
  obtain ⟨a1, a2, a3, a4, a5, a6, a7, a8⟩ := g.2.1 p (by omega)
  obtain ⟨b1, b2, b3, b4, b5, b6, b7, b8⟩ := g.2.1 (p + 1) (by omega)
  obtain ⟨c1, c2, c3, c4, c5, c6, c7, c8⟩ := g.2.1 (p + 2) (by omega)
  refine ⟨⟨a1.trans h1, Nat.le_trans h2 g.1, (a3 _).trans h3, b1.trans h4, b2.trans h5, (a3 _).trans h6, c1.trans h7, c2.trans h8⟩, (a8 162 hk3).trans h9, h10, fun k hk' => ?_, fun i hi => (c5 i).trans (h12 i hi)⟩
  obtain ⟨a, d1, d2, d3⟩ := h11 k hk'
  exact ⟨a, b6 _ _ d1, Nat.lt_of_lt_of_le d2 g.1, CLn_FZ d3 g d2 hk hk2⟩
theorem c_lineAt {σ : St} {p : Nat} {P : PoT} (h : CP σ p P) (z : Int) (z1 : -2147483648 ≤ z) (z2 : z ≤ 2147483647) : f_X5_lineAt σ p (zI z) = some (if 0 ≤ z ∧ z < P.2.1 then hpB σ (p + 1) z.toNat else none) := by
  obtain ⟨⟨h1, h2, h3, h4, h5, h6, h7, h8⟩, h9, h10, h11, h12⟩ := h
  have e0 : (0 : Int32) = zI 0 := rfl
  have l1 : (zI z < zI 0) ↔ z < 0 := zlt z1 z2 (by omega) (by omega)
  have l2 : (zI (P.2.1 : Int) ≤ zI z) ↔ (P.2.1 : Int) ≤ z := zle (by omega) (by omega) z1 z2
  rw [f_X5_lineAt, h9, e0]
  by_cases q : z < 0
  · rw [if_pos (l1.mpr q), if_neg (by omega)]
  · rw [if_neg (fun x => q (l1.mp x))]
    by_cases q2 : (P.2.1 : Int) ≤ z
    · rw [if_pos (l2.mpr q2), if_neg (by omega)]
    · rw [if_neg (fun x => q2 (l2.mp x)), if_pos (by omega), h3, dn_eq h4, bnd, h5, nI_z, if_pos ((zlt z1 z2 (by omega) (by omega)).mpr (by omega)), zI_ix (by omega) (by omega) (by omega), bnd]
theorem c_lineAt0 {σ : St} {p : Nat} {P : PoT} (h : CP σ p P) (z : Int) (z1 : -2147483648 ≤ z) (z2 : z ≤ 2147483647) (q : ¬ (0 ≤ z ∧ z < P.2.1)) : f_X5_lineAt σ p (zI z) = some none := by
  rw [c_lineAt h z z1 z2, if_neg q]
theorem c_lineAtN {σ : St} {p k : Nat} {P : PoT} (h : CP σ p P) (hk : k < P.2.1) : ∃ a, f_X5_lineAt σ p (zI k) = some (some a) ∧ hpB σ (p + 1) k = some a ∧ a < hpN σ ∧ CLn σ a (P.1 k) := by
  obtain ⟨a, a1, a2, a3⟩ := h.2.2.2.1 k hk
  have := h.2.2.1
  refine ⟨a, ?_, a1, a2, a3⟩
  rw [c_lineAt h k (by omega) (by omega), if_pos ⟨by omega, by omega⟩]
  show some (hpB σ (p + 1) k) = _
  rw [a1]
theorem c_setting {σ : St} {p i : Nat} {P : PoT} (h : CP σ p P) (hi : i < 5) : f_X5_setting σ p (zI i) = some (zI (P.2.2 i)) := by
  obtain ⟨⟨h1, h2, h3, h4, h5, h6, h7, h8⟩, h9, h10, h11, h12⟩ := h
  rw [f_X5_setting, h6, f_X10_element, if_neg (by simp), if_neg (zN_lt0 _ (by omega)), dnA_eq h7, bnd, h8, nI_z, if_pos ((zN_lt (by omega) (by omega)).mpr hi), ix_l _ _ hi (by omega), bnd, h12 i hi, bnd]
theorem c_bg {σ : St} {p k : Nat} {P : PoT} (h : CP σ p P) (ho : okP P) (hk : k ≤ P.2.1) : f_X5_beginsStanza σ p (zI k) = some (if bgS P k = true then 1 else 0) := by
  have h24 := ho.1
  have e1 : zI (k : Int) - 1 = zI ((k : Int) - 1) := by rw [show (1 : Int32) = zI 1 from rfl, zI_sub]
  rw [f_X5_beginsStanza, e1]
  by_cases q : k = 0
  · subst q
    rw [c_lineAt0 h _ (by omega) (by omega) (by omega), bnd, if_pos rfl]; rfl
  · obtain ⟨a, a1, a2, a3, a4⟩ := c_lineAtN h (show k - 1 < P.2.1 by omega)
    have hb := (ho.2.1 (k - 1) (by omega)).2.2.2.2.2.2
    have e : (zI ((nLa (P.1 (k - 1)) : Nat) : Int) = 0) ↔ nLa (P.1 (k - 1)) = 0 := zN_eq (b := 0) (by omega) (by omega)
    rw [show (k : Int) - 1 = ((k - 1 : Nat) : Int) by omega, a1, bnd, if_neg (by simp), dn_eq a4.1, bnd, a4.2.2.2.2]
    by_cases z : nLa (P.1 (k - 1)) = 1
    · rw [if_neg (fun x => by have := e.mp x; omega)]; simp [bgS, z]
    · rw [if_pos (e.mpr (by omega))]; simp [bgS, z, q]
/-- numbers by which the first k lines are counted; first line of stanza s; the number that line k shows -/
def nuP (P : PoT) : Nat → Nat
  | 0 => 0
  | k + 1 => if lnS P k = true then nuP P k else nuP P k + 1
def sfA (P : PoT) : Nat → Nat → Nat
  | 0, _ => 0
  | k + 1, s => if bgS P k = true ∧ s = szN P k then k else sfA P k s
def shK (P : PoT) (k : Nat) : Nat := if lnS P k = false ∧ nuP P (k + 1) % 5 = 0 then nuP P (k + 1) else 0
def shA (P : PoT) (W : Nat) : Nat → Nat → Nat
  | 0 => fun _ => 0
  | k + 1 => upN (shA P W k) (layA P W k).1 (shK P k)
theorem nuP_le (P : PoT) : ∀ k, nuP P k ≤ k
  | 0 => Nat.le_refl 0
  | k + 1 => by have := nuP_le P k; rw [nuP]; split <;> omega
def SPW (σ : St) (a : Nat) (P : PoT) (W i : Nat) : Prop := hpI σ 96 a = zI (((if lnS P i = true then 1 else 0 : Nat)) : Int) ∧ hpI σ 97 a = zI (nuP P (i + 1)) ∧ hpI σ 98 a = zI (szO P i) ∧ hpI σ 99 a = zI (layA P W i).1
def SLx (σ : St) (t : Nat) (P : PoT) (W k : Nat) : Prop := ∀ i, i < k → ∃ a, hpB σ (t + 2) i = some a ∧ SPW σ a P W i ∧ hpI σ 100 a = zI (lrS P W i)
def ZW (σ : St) (a : Nat) (P : PoT) (W k k' s : Nat) : Prop := hpI σ 224 a = zI (sfA P k s) ∧ hpI σ 225 a = zI (layA P W (sfA P k s)).1 ∧ hpI σ 226 a = zI (srS P W k' s)
def ZL (σ : St) (t : Nat) (P : PoT) (W k k' : Nat) : Prop := hpI σ 37 t = zI (szN P k) ∧ ∀ s, s < szN P k → ∃ a, hpB σ (t + 3) s = some a ∧ ZW σ a P W k k' s
def okSp (Q : Nat → Prop) (t f a : Nat) : Prop := (f = 39 ∧ a = t) ∨ (96 ≤ f ∧ f < 128 ∧ Q a)
def okZ (Q : Nat → Prop) (t f a : Nat) : Prop := (f = 37 ∧ a = t) ∨ (224 ≤ f ∧ f < 256 ∧ Q a)
theorem SP_k {Q : Nat → Prop} {C S : Nat} {σ : St} {t a i : Nat} (h : LI Q C S σ t) (hi : i < 24) (hb : hpB σ (t + 2) i = some a) : hpK σ a = 3 ∧ a < hpN σ ∧ Q a := h.2.2.2.2.1.2.2.2.1 i a hi hb
theorem Z_k {Q : Nat → Prop} {C S : Nat} {σ : St} {t a i : Nat} (h : LI Q C S σ t) (hi : i < 24) (hb : hpB σ (t + 3) i = some a) : hpK σ a = 7 ∧ a < hpN σ ∧ Q a := h.2.2.2.2.2.1.2.2.2.1 i a hi hb
theorem SPW_FZ {ok : Nat → Nat → Prop} {okB : Nat → Prop} {σ τ : St} {a W i : Nat} {P : PoT} (g : FZ ok okB σ τ) (ha : a < hpN σ) (h : SPW σ a P W i) (hk : ∀ f a, 96 ≤ f → f < 128 → ¬ ok f a) : SPW τ a P W i := by
  obtain ⟨-, -, -, -, -, -, -, a8⟩ := g.2.1 a ha
  obtain ⟨b1, b2, b3, b4⟩ := h
  exact ⟨(a8 96 (hk _ _ (by decide) (by decide))).trans b1, (a8 97 (hk _ _ (by decide) (by decide))).trans b2, (a8 98 (hk _ _ (by decide) (by decide))).trans b3, (a8 99 (hk _ _ (by decide) (by decide))).trans b4⟩
theorem SLx_FZ {Q : Nat → Prop} {C S : Nat} {ok : Nat → Nat → Prop} {okB : Nat → Prop} {σ τ : St} {t W k : Nat} {P : PoT} (h : LI Q C S σ t) (hs : SLx σ t P W k) (hk24 : k ≤ 24) (g : FZ ok okB σ τ) (hk : ∀ f a, 96 ≤ f → f < 128 → ¬ ok f a) : SLx τ t P W k := fun i hi => by
  have hN := h.2.1.1
  obtain ⟨a, a1, a2, a3⟩ := hs i hi
  have ha := (SP_k h (by omega) a1).2.1
  exact ⟨a, (g.2.1 (t + 2) (by omega)).2.2.2.2.2.1 i a a1, SPW_FZ g ha a2 hk, ((g.2.1 a ha).2.2.2.2.2.2.2 100 (hk _ _ (by decide) (by decide))).trans a3⟩
theorem ZW_FZ {ok : Nat → Nat → Prop} {okB : Nat → Prop} {σ τ : St} {a W k k' s : Nat} {P : PoT} (g : FZ ok okB σ τ) (ha : a < hpN σ) (h : ZW σ a P W k k' s) (hk : ∀ f a, 224 ≤ f → f < 256 → ¬ ok f a) : ZW τ a P W k k' s := by
  obtain ⟨-, -, -, -, -, -, -, a8⟩ := g.2.1 a ha
  obtain ⟨b1, b2, b3⟩ := h
  exact ⟨(a8 224 (hk _ _ (by decide) (by decide))).trans b1, (a8 225 (hk _ _ (by decide) (by decide))).trans b2, (a8 226 (hk _ _ (by decide) (by decide))).trans b3⟩
theorem ZL_FZ {Q : Nat → Prop} {C S : Nat} {ok : Nat → Nat → Prop} {okB : Nat → Prop} {σ τ : St} {t W k k' : Nat} {P : PoT} (h : LI Q C S σ t) (hs : ZL σ t P W k k') (hk24 : k ≤ 24) (g : FZ ok okB σ τ) (h1 : ¬ ok 37 t) (hk : ∀ f a, 224 ≤ f → f < 256 → ¬ ok f a) : ZL τ t P W k k' := by
  have hN := h.2.1.1
  have hz := (szN_le P k).1
  refine ⟨((g.2.1 t (by omega)).2.2.2.2.2.2.2 37 h1).trans hs.1, fun s hs' => ?_⟩
  obtain ⟨a, a1, a2⟩ := hs.2 s hs'
  have ha := (Z_k h (by omega) a1).2.1
  exact ⟨a, (g.2.1 (t + 3) (by omega)).2.2.2.2.2.1 s a a1, ZW_FZ g ha a2 hk⟩


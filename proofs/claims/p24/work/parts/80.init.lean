/-- cell a is the same in both -/
def sam (σ τ : St) (a : Nat) : Prop := hpK τ a = hpK σ a ∧ hpL τ a = hpL σ a ∧ (∀ f, hpR τ f a = hpR σ f a) ∧ (∀ j, hpA τ a j = hpA σ a j) ∧ (∀ j, hpB τ a j = hpB σ a j) ∧ ∀ f, hpI τ f a = hpI σ f a
theorem sam_refl (σ : St) (a : Nat) : sam σ σ a := ⟨rfl, rfl, fun _ => rfl, fun _ => rfl, fun _ => rfl, fun _ => rfl⟩
theorem sam_trans {σ τ ρ : St} {a : Nat} (h : sam σ τ a) (g : sam τ ρ a) : sam σ ρ a := ⟨g.1.trans h.1, g.2.1.trans h.2.1, fun f => (g.2.2.1 f).trans (h.2.2.1 f), fun f => (g.2.2.2.1 f).trans (h.2.2.2.1 f), fun f => (g.2.2.2.2.1 f).trans (h.2.2.2.2.1 f), fun f => (g.2.2.2.2.2 f).trans (h.2.2.2.2.2 f)⟩
/-- a constructor at t leaves what was there -/
def GN (t : Nat) (σ τ : St) : Prop := (∀ a, a < hpN σ → hpK τ a = hpK σ a ∧ (a ≠ t → sam σ τ a)) ∧ ∀ i, hpG τ i = hpG σ i
theorem GN_refl (t : Nat) (σ : St) : GN t σ σ := ⟨fun a _ => ⟨rfl, fun _ => sam_refl σ a⟩, fun _ => rfl⟩
theorem GN_trans {t s : Nat} {σ τ ρ : St} (h : GN t σ τ) (g : GN s τ ρ) (hN : hpN σ ≤ hpN τ) (hs : s = t ∨ hpN σ ≤ s) : GN t σ ρ :=
  ⟨fun a ha => ⟨((g.1 a (by omega)).1).trans (h.1 a ha).1, fun q => sam_trans ((h.1 a ha).2 q) ((g.1 a (by omega)).2 (by omega))⟩, fun i => (g.2 i).trans (h.2 i)⟩
theorem GN_nw (t : Nat) (σ : St) (k n m : Nat) : GN t σ (nw σ k n m) := by
  refine ⟨fun a ha => ?_, fun i => rfl⟩
  have e : a ≠ hpN σ := by omega
  exact ⟨by rw [hpK_nw, if_neg e], fun _ => ⟨by rw [hpK_nw, if_neg e], by rw [hpL_nw, if_neg e], fun f => by rw [hpR_nw, if_neg e], fun f => by rw [hpA_nw, if_neg e], fun f => by rw [hpB_nw, if_neg e], fun f => by rw [hpI_nw, if_neg e]⟩⟩
theorem GN_stR (t : Nat) (σ : St) (f : Nat) (v : Option Nat) : GN t σ (stR σ f t v) :=
  ⟨fun a _ => ⟨rfl, fun q => ⟨rfl, rfl, fun f1 => by rw [hpR_stR, if_neg (fun y => q y.2)], fun _ => rfl, fun _ => rfl, fun _ => rfl⟩⟩, fun _ => rfl⟩
theorem GN_stI (t : Nat) (σ : St) (f : Nat) (v : Int32) : GN t σ (stI σ f t v) :=
  ⟨fun a _ => ⟨rfl, fun q => ⟨rfl, rfl, fun _ => rfl, fun _ => rfl, fun _ => rfl, fun f1 => by rw [hpI_stI, if_neg (fun y => q y.2)]⟩⟩, fun _ => rfl⟩
/-- the first settings -/
def sIn (i : Nat) : Nat := if i = 0 then 30 else if i = 1 then 12 else if i = 2 then 2 else if i = 3 then 4 else 6
def G0 (σ : St) : Prop := hpG σ 0 < hpN σ ∧ hpK σ (hpG σ 0) = 20 ∧ hpL σ (hpG σ 0) = 5 ∧ ∀ i, i < 5 → hpA σ (hpG σ 0) i = zI (sIn i)
theorem G0_GN {t : Nat} {σ τ : St} (h : G0 σ) (g : GN t σ τ) (hN : hpN σ ≤ hpN τ) (ht : hpG σ 0 ≠ t) : G0 τ := by
  obtain ⟨h1, h2, h3, h4⟩ := h
  have s := (g.1 _ h1).2 ht
  unfold G0
  rw [g.2 0]
  exact ⟨by omega, s.1.trans h2, s.2.1.trans h3, fun i hi => (s.2.2.2.1 i).trans (h4 i hi)⟩
/-- an empty text, poem, past, layout -/
def XC (σ : St) (u : Nat) : Prop := hpK σ u = 8 ∧ hpR σ 256 u = some (u + 1) ∧ hpK σ (u + 1) = 12 ∧ hpL σ (u + 1) = 80 ∧ hpI σ 257 u = zI ((0 : Nat) : Int)
def XP (σ : St) (p : Nat) : Prop := hpK σ p = 5 ∧ hpR σ 160 p = some (p + 1) ∧ hpK σ (p + 1) = 14 ∧ hpL σ (p + 1) = 24 ∧ hpR σ 161 p = some (p + 2) ∧ hpK σ (p + 2) = 13 ∧ hpL σ (p + 2) = 5 ∧ hpI σ 162 p = zI ((0 : Nat) : Int) ∧ ∀ i, i < 5 → hpA σ (p + 2) i = zI (sIn i)
def XH (σ : St) (h : Nat) : Prop := hpK σ h = 0 ∧ hpR σ 0 h = some (h + 1) ∧ hpK σ (h + 1) = 17 ∧ hpL σ (h + 1) = 8 ∧ hpI σ 1 h = zI ((0 : Nat) : Int) ∧ ∀ i, i < 8 → hpB σ (h + 1) i = some (h + 2 + 3 * i) ∧ XP σ (h + 2 + 3 * i)
def XA (σ : St) (t f d k n : Nat) : Prop := hpR σ f t = some (t + d) ∧ hpK σ (t + d) = k ∧ hpL σ (t + d) = n ∧ ∀ i, hpB σ (t + d) i = none
def XL (σ : St) (t : Nat) : Prop := hpK σ t = 1 ∧ XA σ t 32 1 18 480 ∧ XA σ t 33 2 15 24 ∧ XA σ t 34 3 19 24 ∧ XA σ t 35 4 16 480 ∧ ∀ f, 36 ≤ f → f ≤ 40 → hpI σ f t = zI ((0 : Nat) : Int)
theorem XC_tr {σ τ : St} {u : Nat} (h : XC σ u) (g : ∀ a, u ≤ a → a ≤ u + 1 → sam σ τ a) : XC τ u := by
  obtain ⟨h1, h2, h3, h4, h5⟩ := h
  have s := g u (by omega) (by omega)
  have s1 := g (u + 1) (by omega) (by omega)
  exact ⟨s.1.trans h1, (s.2.2.1 _).trans h2, s1.1.trans h3, s1.2.1.trans h4, (s.2.2.2.2.2 _).trans h5⟩
theorem XP_tr {σ τ : St} {p : Nat} (h : XP σ p) (g : ∀ a, p ≤ a → a ≤ p + 2 → sam σ τ a) : XP τ p := by
  obtain ⟨h1, h2, h3, h4, h5, h6, h7, h8, h9⟩ := h
  have s := g p (by omega) (by omega)
  have s1 := g (p + 1) (by omega) (by omega)
  have s2 := g (p + 2) (by omega) (by omega)
  exact ⟨s.1.trans h1, (s.2.2.1 _).trans h2, s1.1.trans h3, s1.2.1.trans h4, (s.2.2.1 _).trans h5, s2.1.trans h6, s2.2.1.trans h7, (s.2.2.2.2.2 _).trans h8, fun i hi => (s2.2.2.2.1 i).trans (h9 i hi)⟩
theorem XH_tr {σ τ : St} {h : Nat} (k : XH σ h) (g : ∀ a, h ≤ a → a ≤ h + 25 → sam σ τ a) : XH τ h := by
  obtain ⟨h1, h2, h3, h4, h5, h6⟩ := k
  have s := g h (by omega) (by omega)
  have s1 := g (h + 1) (by omega) (by omega)
  exact ⟨s.1.trans h1, (s.2.2.1 _).trans h2, s1.1.trans h3, s1.2.1.trans h4, (s.2.2.2.2.2 _).trans h5, fun i hi => ⟨(s1.2.2.2.2.1 i).trans (h6 i hi).1, XP_tr (h6 i hi).2 (fun a h1 h2 => g a (by omega) (by omega))⟩⟩
theorem XA_tr {σ τ : St} {t f d k n : Nat} (h : XA σ t f d k n) (s : sam σ τ t) (s1 : sam σ τ (t + d)) : XA τ t f d k n :=
  ⟨(s.2.2.1 _).trans h.1, s1.1.trans h.2.1, s1.2.1.trans h.2.2.1, fun i => (s1.2.2.2.2.1 i).trans (h.2.2.2 i)⟩
theorem XL_tr {σ τ : St} {t : Nat} (h : XL σ t) (g : ∀ a, t ≤ a → a ≤ t + 4 → sam σ τ a) : XL τ t := by
  obtain ⟨h1, h2, h3, h4, h5, h6⟩ := h
  have s := g t (by omega) (by omega)
  exact ⟨s.1.trans h1, XA_tr h2 s (g _ (by omega) (by omega)), XA_tr h3 s (g _ (by omega) (by omega)), XA_tr h4 s (g _ (by omega) (by omega)), XA_tr h5 s (g _ (by omega) (by omega)), fun f f1 f2 => (s.2.2.2.2.2 f).trans (h6 f f1 f2)⟩
theorem NXe : NX = 600000 := rfl
theorem SXe : SX = 7302250 := rfl
theorem i_X8 {σ : St} {t : Nat} (h1 : hpK σ t = 8) (h2 : t + 1 = hpN σ) (c1 : hpC σ + 1 ≤ NX) (c2 : hpS σ + 80 ≤ SX) : ∃ τ, f_X8_init σ t = some τ ∧ hpN τ = t + 2 ∧ hpC τ = hpC σ + 1 ∧ hpS τ = hpS σ + 80 ∧ GN t σ τ ∧ XC τ t := by
  have ne : t ≠ hpN σ := by omega
  have e : nwA σ 12 80 = some (nw σ 12 80 80) := nwA_ok (n := 80) (by omega) c1 c2
  have e1 : hpK (nw σ 12 80 80) t = 8 := by rw [hpK_nw, if_neg ne]; exact h1
  rw [f_X8_init, e, bnd, dn_eq e1, bnd, ← h2]
  refine ⟨_, rfl, by rw [hpN_stI, hpN_stR, hpN_nw, ← h2], rfl, rfl, GN_trans (GN_trans (GN_nw t σ 12 80 80) (GN_stR t _ _ _) (by simp only [hpN_nw]; omega) (.inl rfl)) (GN_stI t _ _ _) (by simp only [hpN_stR, hpN_nw]; omega) (.inl rfl), e1, ?_, ?_, ?_, ?_⟩
  · simp [hpR_stI, hpR_stR]
  · simp [hpK_stI, hpK_stR, hpK_nw, h2]
  · simp [hpL_stI, hpL_stR, hpL_nw, h2]
  · simp [hpI_stI]; rfl
/-- only the numbers of array w change -/
def AS (w : Nat) (σ τ : St) : Prop := hpN τ = hpN σ ∧ hpC τ = hpC σ ∧ hpS τ = hpS σ ∧ (∀ a, hpK τ a = hpK σ a) ∧ (∀ a, hpL τ a = hpL σ a) ∧ (∀ f a, hpI τ f a = hpI σ f a) ∧ (∀ f a, hpR τ f a = hpR σ f a) ∧ (∀ a j, hpB τ a j = hpB σ a j) ∧ (∀ i, hpG τ i = hpG σ i) ∧ ∀ a j, a ≠ w → hpA τ a j = hpA σ a j
theorem AS_stA {w : Nat} {σ τ : St} (h : AS w σ τ) (j : Nat) (v : Int32) : AS w σ (stA τ w j v) := by
  obtain ⟨h1, h2, h3, h4, h5, h6, h7, h8, h9, hA⟩ := h
  exact ⟨h1, h2, h3, h4, h5, h6, h7, h8, h9, fun a i q => by rw [hpA_stA, if_neg (fun y => q y.1)]; exact hA a i q⟩
theorem i_X5l {σ : St} {t w : Nat} (h1 : hpK σ t = 5) (h2 : hpR σ 161 t = some w) (h3 : hpK σ w = 13) (h4 : hpL σ w = 5) (g : G0 σ) : ∀ (d i n : Nat) (τ : St), i + d = 5 → d < n → AS w σ τ → (∀ j, j < i → hpA τ w j = zI (sIn j)) → ∃ ρ, LX5_init_27 n t (zI (i : Int)) τ = some ρ ∧ AS w σ ρ ∧ ∀ j, j < 5 → hpA ρ w j = zI (sIn j) := by
  have hw : hpG σ 0 ≠ w := fun q => by have := g.2.1; rw [q, h3] at this; exact absurd this (by decide)
  intro d
  induction d with
  | zero =>
    intro i n τ hi hn A B
    obtain ⟨n, rfl⟩ : ∃ f1, n = f1 + 1 := ⟨n - 1, by omega⟩
    obtain ⟨A1, A2, A3, A4, A5, A6, A7, A8, A9, AA⟩ := id A
    have e : i = 5 := by omega
    subst e
    rw [LX5_init_27, dn_eq ((A4 t).trans h1), bnd, A7, h2, dnA_eq ((A4 w).trans h3), bnd, A5, h4, nI_z, if_pos (by decide)]
    exact ⟨τ, rfl, A, B⟩
  | succ d ih =>
    intro i n τ hi hn A B
    obtain ⟨n, rfl⟩ : ∃ f1, n = f1 + 1 := ⟨n - 1, by omega⟩
    obtain ⟨A1, A2, A3, A4, A5, A6, A7, A8, A9, AA⟩ := id A
    have hc : ¬ zI ((5 : Nat) : Int) ≤ zI (i : Int) := fun y => by have := (zN_le (by omega) (by omega)).mp y; omega
    have hg := c_elS (σ := τ) (a := hpG τ 0) (i := i) (f := sIn) (by rw [A9, A4]; exact g.2.1) (by rw [A9, A5]; exact g.2.2.1) (fun j hj => by rw [A9, AA _ _ hw]; exact g.2.2.2 j hj) (by omega)
    rw [LX5_init_27, dn_eq ((A4 t).trans h1), bnd, A7, h2, dnA_eq ((A4 w).trans h3), bnd, A5, h4, nI_z, if_neg hc, hg, bnd, dn_eq ((A4 w).trans h3), bnd, A5, h4, ix_l _ _ (by omega) (by omega), bnd, zN_add1]
    refine ih (i + 1) n _ (by omega) (by omega) (AS_stA A i _) (fun j hj => ?_)
    rw [hpA_stA]
    by_cases q : j = i
    · rw [if_pos ⟨rfl, q⟩, q]
    · rw [if_neg (fun y => q y.2)]; exact B j (by omega)
theorem i_X5 {σ : St} {t : Nat} (h1 : hpK σ t = 5) (h2 : t + 1 = hpN σ) (g : G0 σ) (c1 : hpC σ + 2 ≤ NX) (c2 : hpS σ + 29 ≤ SX) : ∃ τ, f_X5_init σ t = some τ ∧ hpN τ = t + 3 ∧ hpC τ = hpC σ + 2 ∧ hpS τ = hpS σ + 29 ∧ GN t σ τ ∧ XP τ t := by
  have ne : t ≠ hpN σ := by omega
  have ne2 : t ≠ hpN σ + 1 := by omega
  have hg : hpG σ 0 ≠ t := fun q => by have := g.2.1; rw [q, h1] at this; exact absurd this (by decide)
  have e : nwA σ 14 24 = some (nw σ 14 24 24) := nwA_ok (n := 24) (by omega) (by omega) (by omega)
  have e1 : hpK (nw σ 14 24 24) t = 5 := by rw [hpK_nw, if_neg ne]; exact h1
  have e2 : nwA (stR (nw σ 14 24 24) 160 t (some (hpN σ))) 13 5 = some (nw (stR (nw σ 14 24 24) 160 t (some (hpN σ))) 13 5 5) := nwA_ok (n := 5) (by omega) (by rw [hpC_stR, hpC_nw]; omega) (by rw [hpS_stR, hpS_nw]; omega)
  have e3 : hpK (nw (stR (nw σ 14 24 24) 160 t (some (hpN σ))) 13 5 5) t = 5 := by rw [hpK_nw, hpN_stR, hpN_nw, if_neg ne2]; exact e1
  rw [f_X5_init, e, bnd, dn_eq e1, bnd, e2, bnd, dn_eq e3, bnd]
  have N1 : hpN (stR (nw σ 14 24 24) 160 t (some (hpN σ))) = hpN σ + 1 := rfl
  rw [N1]
  have G1 : GN t σ (stI (stR (nw (stR (nw σ 14 24 24) 160 t (some (hpN σ))) 13 5 5) 161 t (some (hpN σ + 1))) 162 t 0) := by
    refine GN_trans (GN_trans (GN_trans (GN_trans (GN_nw t σ 14 24 24) (GN_stR t _ _ _) ?_ (.inl rfl)) (GN_nw t _ 13 5 5) ?_ (.inl rfl)) (GN_stR t _ _ _) ?_ (.inl rfl)) (GN_stI t _ _ _) ?_ (.inl rfl) <;> simp only [hpN_stR, hpN_nw] <;> omega
  have hN2 : hpN (stI (stR (nw (stR (nw σ 14 24 24) 160 t (some (hpN σ))) 13 5 5) 161 t (some (hpN σ + 1))) 162 t 0) = hpN σ + 2 := rfl
  have g2 := G0_GN g G1 (by omega) hg
  obtain ⟨ρ, r1, ⟨A1, A2, A3, A4, A5, A6, A7, A8, A9, AA⟩, r3⟩ := i_X5l (t := t) (w := hpN σ + 1) (σ := stI (stR (nw (stR (nw σ 14 24 24) 160 t (some (hpN σ))) 13 5 5) 161 t (some (hpN σ + 1))) 162 t 0) e3 (by simp [hpR_stI, hpR_stR]) (by simp [hpK_stI, hpK_stR, hpK_nw, hpN_stR, hpN_nw]) (by simp [hpL_stI, hpL_stR, hpL_nw, hpN_stR, hpN_nw]) g2 5 0 FU _ rfl (by decide) ⟨rfl, rfl, rfl, fun _ => rfl, fun _ => rfl, fun _ _ => rfl, fun _ _ => rfl, fun _ _ => rfl, fun _ => rfl, fun _ _ _ => rfl⟩ (fun j hj => by omega)
  rw [show (0 : Int32) = zI ((0 : Nat) : Int) from rfl] at r1 ⊢
  rw [r1, bnd]
  refine ⟨ρ, rfl, by omega, by rw [A2]; rfl, by rw [A3]; rfl, GN_trans G1 ⟨fun a ha => ⟨A4 a, fun q => ?_⟩, A9⟩ (by omega) (.inr (Nat.le_succ (hpN σ))), ?_⟩
  · exact ⟨A4 a, A5 a, fun f => A7 f a, fun j => AA a j q, fun j => A8 a j, fun f => A6 f a⟩
  · have q1 : hpN σ = t + 1 := h2.symm
    rw [q1] at r3
    refine ⟨(A4 t).trans e3, (A7 160 t).trans ?_, (A4 (t + 1)).trans ?_, (A5 (t + 1)).trans ?_, (A7 161 t).trans ?_, (A4 (t + 2)).trans ?_, (A5 (t + 2)).trans ?_, (A6 162 t).trans ?_, r3⟩
    · simp [hpR_stI, hpR_stR, hpR_nw, q1, hpN_stR, hpN_nw]; try omega
    · simp [hpK_stI, hpK_stR, hpK_nw, q1, hpN_stR, hpN_nw]
    · simp [hpL_stI, hpL_stR, hpL_nw, q1, hpN_stR, hpN_nw]
    · simp [hpR_stI, hpR_stR, hpR_nw, q1, hpN_stR, hpN_nw]
    · simp [hpK_stI, hpK_stR, hpK_nw, q1, hpN_stR, hpN_nw]
    · simp [hpL_stI, hpL_stR, hpL_nw, q1, hpN_stR, hpN_nw]
    · simp [hpI_stI]; rfl
/-- the past's loop -/
theorem i_X0l {σ : St} {h : Nat} (hN : hpN σ = h + 1) (g : G0 σ) (gh : hpG σ 0 ≠ h) (c1 : hpC σ + 25 ≤ NX) (c2 : hpS σ + 264 ≤ SX) : ∀ (d i n : Nat) (τ : St), i + d = 8 → d < n → GN h σ τ → (hpN τ = h + 2 + 3 * i ∧ hpC τ = hpC σ + 1 + 3 * i ∧ hpS τ = hpS σ + 8 + 32 * i) → hpK τ h = 0 → hpR τ 0 h = some (h + 1) → hpK τ (h + 1) = 17 → hpL τ (h + 1) = 8 → hpI τ 1 h = zI ((0 : Nat) : Int) → (∀ j, j < i → hpB τ (h + 1) j = some (h + 2 + 3 * j) ∧ XP τ (h + 2 + 3 * j)) → ∃ ρ, LX0_init_20 n h (zI (i : Int)) τ = some ρ ∧ GN h σ ρ ∧ (hpN ρ = h + 26 ∧ hpC ρ = hpC σ + 25 ∧ hpS ρ = hpS σ + 264) ∧ XH ρ h := by
  intro d
  induction d with
  | zero =>
    intro i n τ hi hn G N k1 k2 k3 k4 k5 k6
    obtain ⟨n, rfl⟩ : ∃ f1, n = f1 + 1 := ⟨n - 1, by omega⟩
    have e : i = 8 := by omega
    subst e
    rw [LX0_init_20, dn_eq k1, bnd, k2, dn_eq k3, bnd, k4, nI_z, if_pos (by decide)]
    exact ⟨τ, rfl, G, N, k1, k2, k3, k4, k5, k6⟩
  | succ d ih =>
    intro i n τ hi hn G N k1 k2 k3 k4 k5 k6
    obtain ⟨n, rfl⟩ : ∃ f1, n = f1 + 1 := ⟨n - 1, by omega⟩
    obtain ⟨N1, N2, N3⟩ := N
    have hc : ¬ zI ((8 : Nat) : Int) ≤ zI (i : Int) := fun y => by have := (zN_le (by omega) (by omega)).mp y; omega
    have e : nwO τ 5 = some (nw τ 5 0 3) := nwO_ok (by omega) (by show hpS τ + 3 ≤ SX; omega)
    have e1 : hpK (nw τ 5 0 3) (hpN τ) = 5 := by rw [hpK_nw, if_pos rfl]
    have gτ : G0 τ := G0_GN g G (by omega) gh
    have hgτ : hpG τ 0 < hpN τ := gτ.1
    have ga : GN (hpN τ) τ (nw τ 5 0 3) := GN_nw _ τ 5 0 3
    obtain ⟨ρ, r1, r2, r3, r4, r5, r6⟩ := i_X5 (σ := nw τ 5 0 3) (t := hpN τ) e1 rfl (G0_GN gτ ga (by rw [hpN_nw]; omega) (by omega)) (by rw [hpC_nw]; omega) (by rw [hpS_nw]; omega)
    have gb : GN (hpN τ) τ ρ := GN_trans ga r5 (by rw [hpN_nw]; omega) (.inl rfl)
    have s0 := (gb.1 h (by omega)).2 (by omega)
    have s1 := (gb.1 (h + 1) (by omega)).2 (by omega)
    have kρ : hpK ρ (hpN τ) = 5 := r6.1
    rw [LX0_init_20, dn_eq k1, bnd, k2, dn_eq k3, bnd, k4, nI_z, if_neg hc, e, bnd, dn_eq e1, bnd, r1, bnd, dn_eq (s1.1.trans k3), bnd, s1.2.1, k4, ix_l _ _ (by omega) (by omega), bnd, dm_eq1 kρ, bnd, zN_add1, N1]
    rw [N1] at r2 r6
    rw [hpC_nw] at r3
    rw [hpS_nw] at r4
    refine ih (i + 1) n _ (by omega) (by omega) ?_ ⟨?_, ?_, ?_⟩ (s0.1.trans k1) ((s0.2.2.1 0).trans k2) (s1.1.trans k3) (s1.2.1.trans k4) ((s0.2.2.2.2.2 1).trans k5) (fun j hj => ?_)
    · refine GN_trans (GN_trans G gb (by omega) (.inr (by omega))) (s := h + 1) ⟨fun a ha => ⟨rfl, fun q => ⟨rfl, rfl, fun _ => rfl, fun _ => rfl, fun j => by rw [hpB_stB, if_neg (fun y => q y.1)], fun _ => rfl⟩⟩, fun _ => rfl⟩ (by omega) (.inr (by omega))
    · rw [hpN_stB]; omega
    · rw [hpC_stB]; omega
    · rw [hpS_stB]; omega
    · by_cases q : j = i
      · subst q
        refine ⟨by rw [hpB_stB, if_pos ⟨rfl, rfl⟩], r6⟩
      · have hj2 : j < i := by omega
        refine ⟨by rw [hpB_stB, if_neg (fun y => q y.2), s1.2.2.2.2.1]; exact (k6 j hj2).1, ?_⟩
        have hx : XP ρ (h + 2 + 3 * j) := XP_tr (k6 j hj2).2 (fun a a1 a2 => (gb.1 a (by omega)).2 (by omega))
        exact hx
theorem i_X0 {σ : St} {t : Nat} (h1 : hpK σ t = 0) (h2 : t + 1 = hpN σ) (g : G0 σ) (c1 : hpC σ + 25 ≤ NX) (c2 : hpS σ + 264 ≤ SX) : ∃ τ, f_X0_init σ t = some τ ∧ hpN τ = t + 26 ∧ hpC τ = hpC σ + 25 ∧ hpS τ = hpS σ + 264 ∧ GN t σ τ ∧ XH τ t := by
  have ne : t ≠ hpN σ := by omega
  have q1 : hpN σ = t + 1 := h2.symm
  have hg : hpG σ 0 ≠ t := fun q => by have := g.2.1; rw [q, h1] at this; exact absurd this (by decide)
  have e : nwA σ 17 8 = some (nw σ 17 8 8) := nwA_ok (n := 8) (by omega) (by omega) (by omega)
  have e1 : hpK (nw σ 17 8 8) t = 0 := by rw [hpK_nw, if_neg ne]; exact h1
  rw [f_X0_init, e, bnd, dn_eq e1, bnd]
  have G1 : GN t σ (stI (stR (nw σ 17 8 8) 0 t (some (hpN σ))) 1 t 0) := by
    refine GN_trans (GN_trans (GN_nw t σ 17 8 8) (GN_stR t _ _ _) ?_ (.inl rfl)) (GN_stI t _ _ _) ?_ (.inl rfl) <;> simp only [hpN_stR, hpN_nw] <;> omega
  obtain ⟨ρ, r1, r2, ⟨r3, r4, r5⟩, r6⟩ := i_X0l (σ := σ) (h := t) q1 g hg c1 c2 8 0 FU (stI (stR (nw σ 17 8 8) 0 t (some (hpN σ))) 1 t 0) rfl (by decide) G1 ⟨by rw [hpN_stI, hpN_stR, hpN_nw, q1], rfl, rfl⟩ e1 (by simp [hpR_stI, hpR_stR, q1]) (by simp [hpK_stI, hpK_stR, hpK_nw, q1]) (by simp [hpL_stI, hpL_stR, hpL_nw, q1]) (by simp [hpI_stI]; rfl) (fun j hj => by omega)
  rw [show (0 : Int32) = zI ((0 : Nat) : Int) from rfl] at r1 ⊢
  rw [r1, bnd]
  exact ⟨ρ, rfl, r3, r4, r5, r2, r6⟩
theorem i_X1 {σ : St} {t : Nat} (h1 : hpK σ t = 1) (h2 : t + 1 = hpN σ) (c1 : hpC σ + 4 ≤ NX) (c2 : hpS σ + 1008 ≤ SX) : ∃ τ, f_X1_init σ t = some τ ∧ hpN τ = t + 5 ∧ hpC τ = hpC σ + 4 ∧ hpS τ = hpS σ + 1008 ∧ GN t σ τ ∧ XL τ t := by
  have q1 : hpN σ = t + 1 := h2.symm
  have st : ∀ (s : St) (k m f : Nat), hpK s t = 1 → t < hpN s → hpC s + 1 ≤ NX → hpS s + m ≤ SX → m ≤ 1000000 → nwA s k (zI (m : Int)) = some (nw s k m m) ∧ hpK (nw s k m m) t = 1 ∧ GN t s (stR (nw s k m m) f t (some (hpN s))) := by
    intro s k m f a1 a2 a3 a4 a5
    refine ⟨nwA_ok a5 a3 a4, by rw [hpK_nw, if_neg (by omega)]; exact a1, GN_trans (GN_nw t s k m m) (GN_stR t _ _ _) (by rw [hpN_nw]; omega) (.inl rfl)⟩
  obtain ⟨a1, a2, a3⟩ := st σ 18 480 32 h1 (by omega) (by omega) (by omega) (by omega)
  have d1 : nwA σ 18 480 = some (nw σ 18 480 480) := a1
  rw [f_X1_init, d1, bnd, dn_eq a2, bnd]
  generalize es : stR (nw σ 18 480 480) 32 t (some (hpN σ)) = s1 at a3 ⊢
  have n1 : hpN s1 = t + 2 ∧ hpC s1 = hpC σ + 1 ∧ hpS s1 = hpS σ + 480 ∧ hpK s1 t = 1 := by rw [← es]; exact ⟨by rw [hpN_stR, hpN_nw, q1], rfl, rfl, a2⟩
  obtain ⟨b1, b2, b3⟩ := st s1 15 24 33 n1.2.2.2 (by omega) (by omega) (by omega) (by omega)
  have d2 : nwA s1 15 24 = some (nw s1 15 24 24) := b1
  rw [d2, bnd, dn_eq b2, bnd]
  generalize es2 : stR (nw s1 15 24 24) 33 t (some (hpN s1)) = s2 at b3 ⊢
  have n2 : hpN s2 = t + 3 ∧ hpC s2 = hpC σ + 2 ∧ hpS s2 = hpS σ + 504 ∧ hpK s2 t = 1 := by rw [← es2]; exact ⟨by rw [hpN_stR, hpN_nw, n1.1], by rw [hpC_stR, hpC_nw, n1.2.1], by rw [hpS_stR, hpS_nw, n1.2.2.1], b2⟩
  obtain ⟨c1', c2', c3'⟩ := st s2 19 24 34 n2.2.2.2 (by omega) (by omega) (by omega) (by omega)
  have d3 : nwA s2 19 24 = some (nw s2 19 24 24) := c1'
  rw [d3, bnd, dn_eq c2', bnd]
  generalize es3 : stR (nw s2 19 24 24) 34 t (some (hpN s2)) = s3 at c3' ⊢
  have n3 : hpN s3 = t + 4 ∧ hpC s3 = hpC σ + 3 ∧ hpS s3 = hpS σ + 528 ∧ hpK s3 t = 1 := by rw [← es3]; exact ⟨by rw [hpN_stR, hpN_nw, n2.1], by rw [hpC_stR, hpC_nw, n2.2.1], by rw [hpS_stR, hpS_nw, n2.2.2.1], c2'⟩
  obtain ⟨e1, e2, e3⟩ := st s3 16 480 35 n3.2.2.2 (by omega) (by omega) (by omega) (by omega)
  have d4 : nwA s3 16 480 = some (nw s3 16 480 480) := e1
  rw [d4, bnd, dn_eq e2, bnd]
  generalize es4 : stR (nw s3 16 480 480) 35 t (some (hpN s3)) = s4 at e3 ⊢
  have n4 : hpN s4 = t + 5 ∧ hpC s4 = hpC σ + 4 ∧ hpS s4 = hpS σ + 1008 ∧ hpK s4 t = 1 := by rw [← es4]; exact ⟨by rw [hpN_stR, hpN_nw, n3.1], by rw [hpC_stR, hpC_nw, n3.2.1], by rw [hpS_stR, hpS_nw, n3.2.2.1], e2⟩
  have g12 := GN_trans a3 b3 (by omega) (.inl rfl)
  have g13 := GN_trans g12 c3' (by omega) (.inl rfl)
  have g14 := GN_trans g13 e3 (by omega) (.inl rfl)
  have g5 : ∀ (s : St), t < hpN s → GN t s (stI (stI (stI (stI (stI s 36 t 0) 37 t 0) 38 t 0) 39 t 0) 40 t 0) := fun s hs => GN_trans (GN_trans (GN_trans (GN_trans (GN_stI t s 36 0) (GN_stI t _ 37 0) (Nat.le_refl _) (.inl rfl)) (GN_stI t _ 38 0) (Nat.le_refl _) (.inl rfl)) (GN_stI t _ 39 0) (Nat.le_refl _) (.inl rfl)) (GN_stI t _ 40 0) (Nat.le_refl _) (.inl rfl)
  refine ⟨_, rfl, n4.1, n4.2.1, n4.2.2.1, GN_trans g14 (g5 s4 (by omega)) (by omega) (.inl rfl), n4.2.2.2, ?_⟩
  -- what each array is
  have A1 : hpK s1 (t + 1) = 18 ∧ hpL s1 (t + 1) = 480 ∧ (∀ i, hpB s1 (t + 1) i = none) ∧ hpR s1 32 t = some (t + 1) := by
    rw [← es]
    exact ⟨by simp [hpK_stR, hpK_nw, q1], by simp [hpL_stR, hpL_nw, q1], fun i => by simp [hpB_stR, hpB_nw, q1], by simp [hpR_stR, q1]⟩
  have A2 : hpK s2 (t + 2) = 15 ∧ hpL s2 (t + 2) = 24 ∧ (∀ i, hpB s2 (t + 2) i = none) ∧ hpR s2 33 t = some (t + 2) ∧ hpR s2 32 t = some (t + 1) := by
    rw [← es2]
    exact ⟨by simp [hpK_stR, hpK_nw, n1.1], by simp [hpL_stR, hpL_nw, n1.1], fun i => by simp [hpB_stR, hpB_nw, n1.1], by simp [hpR_stR, n1.1], by simp [hpR_stR, hpR_nw, n1.1, A1.2.2.2]⟩
  have A3 : hpK s3 (t + 3) = 19 ∧ hpL s3 (t + 3) = 24 ∧ (∀ i, hpB s3 (t + 3) i = none) ∧ hpR s3 34 t = some (t + 3) ∧ hpR s3 33 t = some (t + 2) ∧ hpR s3 32 t = some (t + 1) := by
    rw [← es3]
    exact ⟨by simp [hpK_stR, hpK_nw, n2.1], by simp [hpL_stR, hpL_nw, n2.1], fun i => by simp [hpB_stR, hpB_nw, n2.1], by simp [hpR_stR, n2.1], by simp [hpR_stR, hpR_nw, n2.1, A2.2.2.2.1], by simp [hpR_stR, hpR_nw, n2.1, A2.2.2.2.2]⟩
  have A4 : hpK s4 (t + 4) = 16 ∧ hpL s4 (t + 4) = 480 ∧ (∀ i, hpB s4 (t + 4) i = none) ∧ hpR s4 35 t = some (t + 4) ∧ hpR s4 34 t = some (t + 3) ∧ hpR s4 33 t = some (t + 2) ∧ hpR s4 32 t = some (t + 1) := by
    rw [← es4]
    exact ⟨by simp [hpK_stR, hpK_nw, n3.1], by simp [hpL_stR, hpL_nw, n3.1], fun i => by simp [hpB_stR, hpB_nw, n3.1], by simp [hpR_stR, n3.1], by simp [hpR_stR, hpR_nw, n3.1, A3.2.2.2.1], by simp [hpR_stR, hpR_nw, n3.1, A3.2.2.2.2.1], by simp [hpR_stR, hpR_nw, n3.1, A3.2.2.2.2.2]⟩
  have k1 : sam s1 s4 (t + 1) := sam_trans (sam_trans ((b3.1 (t + 1) (by omega)).2 (by omega)) ((c3'.1 (t + 1) (by omega)).2 (by omega))) ((e3.1 (t + 1) (by omega)).2 (by omega))
  have k2 : sam s2 s4 (t + 2) := sam_trans ((c3'.1 (t + 2) (by omega)).2 (by omega)) ((e3.1 (t + 2) (by omega)).2 (by omega))
  have k3 : sam s3 s4 (t + 3) := (e3.1 (t + 3) (by omega)).2 (by omega)
  refine ⟨⟨A4.2.2.2.2.2.2, k1.1.trans A1.1, k1.2.1.trans A1.2.1, fun i => (k1.2.2.2.2.1 i).trans (A1.2.2.1 i)⟩, ⟨A4.2.2.2.2.2.1, k2.1.trans A2.1, k2.2.1.trans A2.2.1, fun i => (k2.2.2.2.2.1 i).trans (A2.2.2.1 i)⟩, ⟨A4.2.2.2.2.1, k3.1.trans A3.1, k3.2.1.trans A3.2.1, fun i => (k3.2.2.2.2.1 i).trans (A3.2.2.1 i)⟩, ⟨A4.2.2.2.1, A4.1, A4.2.1, A4.2.2.1⟩, fun f f1 f2 => ?_⟩
  have z : (0 : Int32) = zI ((0 : Nat) : Int) := rfl
  have : f = 36 ∨ f = 37 ∨ f = 38 ∨ f = 39 ∨ f = 40 := by omega
  rcases this with q | q | q | q | q <;> subst q <;> simp only [hpI_stI, if_true, and_true, and_self, if_false, Nat.reduceEqDiff] <;> exact z

/-- a line: bytes, words, letters, steps, half, last, its bytes, its words' lengths -/
abbrev LnT : Type := Nat × Nat × Nat × Nat × Nat × Nat × (Nat → Int32) × (Nat → Nat)
def nLen (l : LnT) : Nat := l.1
def nCnt (l : LnT) : Nat := l.2.1
def nLt (l : LnT) : Nat := l.2.2.1
def nSt (l : LnT) : Nat := l.2.2.2.1
def nHf (l : LnT) : Nat := l.2.2.2.2.1
def nLa (l : LnT) : Nat := l.2.2.2.2.2.1
def nB (l : LnT) : Nat → Int32 := l.2.2.2.2.2.2.1
def nE (l : LnT) : Nat → Nat := l.2.2.2.2.2.2.2
/-- a poem: lines, how many, settings -/
abbrev PoT : Type := (Nat → LnT) × Nat × (Nat → Nat)
def okL (l : LnT) : Prop := nLen l ≤ 80 ∧ 0 < nCnt l ∧ nCnt l ≤ 40 ∧ WL (nLen l) (nCnt l) (nLt l) (nB l) (nE l) ∧ nSt l ≤ 5 ∧ nHf l ≤ 1 ∧ nLa l ≤ 1
def okS (S : Nat → Nat) : Prop := 12 ≤ S 0 ∧ S 0 ≤ 60 ∧ 4 ≤ S 1 ∧ S 1 ≤ 30 ∧ S 2 ≤ 6 ∧ S 3 ≤ 8 ∧ S 4 ≤ 30
def okP (P : PoT) : Prop := P.2.1 ≤ 24 ∧ (∀ k, k < P.2.1 → okL (P.1 k)) ∧ okS P.2.2
/-- the poem in the numbers a, from x on -/
def PE (A : Nat → Int32) (x : Nat) (P : PoT) : Prop := (∀ k, k < P.2.1 → A (x + 85 * k) = zI (nLen (P.1 k)) ∧ A (x + (85 * k + 1)) = zI (nCnt (P.1 k)) ∧ A (x + (85 * k + 2)) = zI (nSt (P.1 k)) ∧ A (x + (85 * k + 3)) = zI (nHf (P.1 k)) ∧ A (x + (85 * k + 4)) = zI (nLa (P.1 k)) ∧ ∀ i, i < nLen (P.1 k) → A (x + (85 * k + 5 + i)) = nB (P.1 k) i) ∧ A (x + 2040) = zI P.2.1 ∧ ∀ i, i < 5 → A (x + (2041 + i)) = zI (P.2.2 i)
def PM (M : MS) (P : PoT) : Prop := PE (fun j => mA M 0 j) 0 P
theorem PM_l {M : MS} {P : PoT} (h : PM M P) {k : Nat} (hk : k < P.2.1) : mA M 0 (85 * k) = zI (nLen (P.1 k)) ∧ mA M 0 (85 * k + 1) = zI (nCnt (P.1 k)) ∧ mA M 0 (85 * k + 2) = zI (nSt (P.1 k)) ∧ mA M 0 (85 * k + 3) = zI (nHf (P.1 k)) ∧ mA M 0 (85 * k + 4) = zI (nLa (P.1 k)) ∧ ∀ i, i < nLen (P.1 k) → mA M 0 (85 * k + 5 + i) = nB (P.1 k) i := by
  have := h.1 k hk
  simpa only [Nat.zero_add] using this
theorem PM_n {M : MS} {P : PoT} (h : PM M P) : mA M 0 2040 = zI P.2.1 := by have := h.2.1; simpa only [Nat.zero_add] using this
theorem PM_s {M : MS} {P : PoT} (h : PM M P) {i : Nat} (hi : i < 5) : mA M 0 (2041 + i) = zI (P.2.2 i) := by have := h.2.2 i hi; simpa only [Nat.zero_add] using this
theorem PM_c {M N : MS} {P : PoT} (h : PM M P) (g : ∀ j, mA N 0 j = mA M 0 j) : PM N P := by
  unfold PM at h ⊢
  rw [show (fun j => mA N 0 j) = fun j => mA M 0 j from funext g]; exact h
/-- line k begins a stanza; leans -/
def bgS (P : PoT) (k : Nat) : Bool := decide (k = 0) || decide (nLa (P.1 (k - 1)) = 1)
def lnS (P : PoT) (k : Nat) : Bool := decide (nHf (P.1 k) = 1) && !bgS P k
theorem g_bg {M : MS} {P : PoT} (h : PM M P) (ho : okP P) {k : Nat} (hk : k ≤ P.2.1) : g_X11_beginsStanza M (zI k) = some (if bgS P k = true then 1 else 0) := by
  have h24 := ho.1
  rw [g_X11_beginsStanza]
  by_cases q : k = 0
  · subst q; rw [if_pos (show zI ((0 : Nat) : Int) = 0 from rfl)]; rfl
  · have hz : ¬ zI (k : Int) = 0 := fun x => q ((zN_eq (b := 0) (by omega) (by omega)).mp x)
    rw [if_neg hz, zN_sub1 (by omega), show (4 : Int32) = zI ((4 : Nat) : Int) from rfl, g_of (by omega) (by omega), bnd, (PM_l h (show k - 1 < P.2.1 by omega)).2.2.2.2.1]
    have hb := (ho.2.1 (k - 1) (by omega)).2.2.2.2.2.2
    have e : (zI ((nLa (P.1 (k - 1)) : Nat) : Int) = 1) ↔ nLa (P.1 (k - 1)) = 1 := zN_eq (b := 1) (by omega) (by omega)
    by_cases z : nLa (P.1 (k - 1)) = 1
    · rw [if_neg (fun x => x (e.mpr z))]; simp [bgS, z]
    · rw [if_pos (fun x => z (e.mp x))]; simp [bgS, z, q]
theorem g_leans {M : MS} {P : PoT} (h : PM M P) (ho : okP P) {k : Nat} (hk : k < P.2.1) : g_X11_leans M (zI k) = some (if lnS P k = true then 1 else 0) := by
  have h24 := ho.1
  have hb := (ho.2.1 k hk).2.2.2.2.2.1
  have e : (zI ((nHf (P.1 k) : Nat) : Int) = 1) ↔ nHf (P.1 k) = 1 := zN_eq (b := 1) (by omega) (by omega)
  rw [g_X11_leans, show (3 : Int32) = zI ((3 : Nat) : Int) from rfl, g_of (by omega) (by omega), bnd, (PM_l h hk).2.2.2.1]
  by_cases z : nHf (P.1 k) = 1
  · rw [if_neg (fun x => x (e.mpr z)), g_bg h ho (by omega), bnd]
    cases hb : bgS P k with
    | true => simp [lnS, z, hb]
    | false => simp [lnS, z, hb]
  · rw [if_pos (fun x => z (e.mp x))]; simp [lnS, z]
/-- the columns of a line's first row and of the others -/
def c1S (P : PoT) (W k : Nat) : Nat := min (nSt (P.1 k) * P.2.2 2 + P.2.2 3) (W - 6)
def c0S (P : PoT) (W k : Nat) (rs : RS) : Nat := min (if lnS P k = true then rCo (lastR rs) + rLe (lastR rs) + 1 else nSt (P.1 k) * P.2.2 2) (W - 6)
def layL (P : PoT) (W k : Nat) (rs : RS) : RS := wordsS W (c1S P W k) (nE (P.1 k)) (nCnt (P.1 k)) 0 (addR rs (k, 0, c0S P W k rs, 0, 0, 0))
/-- the rows of the first k lines -/
def layA (P : PoT) (W : Nat) : Nat → RS
  | 0 => (0, fun _ => (0, 0, 0, 0, 0, 0))
  | k + 1 => layL P W k (layA P W k)
theorem g_laysRows {M : MS} {P : PoT} {k : Nat} {rs : RS} (h : PM M P) (ho : okP P) (hk : k < P.2.1) (hr : RM M rs) (hrs : rs.1 ≤ 20 * k) (hl : lnS P k = true → 0 < rs.1 ∧ rCo (lastR rs) + rLe (lastR rs) ≤ 60) :
    ∃ N, g_X11_laysRows M (zI k) = some N ∧ RM N (layL P (P.2.2 0) k rs) ∧ FR M N ∧ rs.1 < (layL P (P.2.2 0) k rs).1 ∧ (layL P (P.2.2 0) k rs).1 ≤ rs.1 + 20 ∧ rCo (lastR (layL P (P.2.2 0) k rs)) + rLe (lastR (layL P (P.2.2 0) k rs)) ≤ 60 ∧ rLn (lastR (layL P (P.2.2 0) k rs)) = k := by
  have h24 := ho.1
  obtain ⟨o1, o2, o3, o4, o5, o6, o7⟩ := ho.2.1 k hk
  obtain ⟨s1, s2, s3, s4, s5, s6, s7⟩ := ho.2.2
  obtain ⟨p1, p2, p3, p4, p5, p6⟩ := PM_l h hk
  have hmul : nSt (P.1 k) * P.2.2 2 ≤ 30 := Nat.le_trans (Nat.mul_le_mul o5 s5) (by omega)
  have q0 : mA M 0 2041 = zI (P.2.2 0) := PM_s h (i := 0) (by omega)
  have q2 : mA M 0 2043 = zI (P.2.2 2) := PM_s h (i := 2) (by omega)
  have q3 : mA M 0 2044 = zI (P.2.2 3) := PM_s h (i := 3) (by omega)
  have hL : LM M k (nLen (P.1 k)) (nB (P.1 k)) := ⟨by omega, o1, p1, p6⟩
  have hS : LSt M (P.2.2 0) (P.2.2 3) := ⟨q0, q3, s1, s2, by omega⟩
  have eb : zI ((nSt (P.1 k) : Nat) : Int) * zI ((P.2.2 2 : Nat) : Int) = zI ((nSt (P.1 k) * P.2.2 2 : Nat) : Int) := by
    rw [zI_mul]; congr 1
  have e0 : (if (if lnS P k = true then (1 : Int32) else 0) = 0 then some (zI ((nSt (P.1 k) : Nat) : Int) * zI ((P.2.2 2 : Nat) : Int)) else (ix ((mF M 17) - 1) 960).bind fun j9 => (ix ((mF M 17) - 1) 960).bind fun j11 => some (((mA M 6 j9) + (mA M 7 j11)) + 1)) = some (zI (((if lnS P k = true then rCo (lastR rs) + rLe (lastR rs) + 1 else nSt (P.1 k) * P.2.2 2) : Nat) : Int)) := by
    cases hn : lnS P k with
    | false => rw [if_pos (show (if false = true then (1 : Int32) else 0) = 0 from rfl), if_neg (by decide), eb]
    | true =>
      obtain ⟨l1, l2⟩ := hl hn
      obtain ⟨m1, m2⟩ := RM_last hr l1
      rw [if_neg (show ¬ (if true = true then (1 : Int32) else 0) = 0 by decide), if_pos rfl, hr.1, zN_sub1 l1, ix_l _ _ (by omega) (by omega), bnd, bnd, m1, m2, zN_add, zN_add1]
  have hcol : (if lnS P k = true then rCo (lastR rs) + rLe (lastR rs) + 1 else nSt (P.1 k) * P.2.2 2) ≤ 100 := by
    split
    · rename_i x; have := hl x; omega
    · omega
  obtain ⟨N1, n1, n2, n3⟩ := g_begins (M := M) (ln := k) (idx := 0) (fr := 0) (wi := 0) (col := if lnS P k = true then rCo (lastR rs) + rLe (lastR rs) + 1 else nSt (P.1 k) * P.2.2 2) hr (by omega) q0 s2 s1 (by omega)
  have eL : lastR (addR rs (k, 0, c0S P (P.2.2 0) k rs, 0, 0, 0)) = (k, 0, c0S P (P.2.2 0) k rs, 0, 0, 0) := lastR_add _ _
  have hc0 : c0S P (P.2.2 0) k rs + 6 ≤ P.2.2 0 := by unfold c0S; omega
  have hrb : RB k (P.2.2 0) (c1S P (P.2.2 0) k) (addR rs (k, 0, c0S P (P.2.2 0) k rs, 0, 0, 0)) 0 (stW (nE (P.1 k)) 0) := by
    refine ⟨⟨?_, ?_, ?_, ?_, ?_, ?_⟩, Or.inl ⟨?_, ?_, ?_⟩, ?_⟩
    · show 0 < rs.1 + 1; omega
    · rw [eL]; exact hc0
    · unfold c1S; omega
    · rw [eL]; rfl
    · rw [eL]; show 8 * (0 / 2) ≤ 0; omega
    · rw [eL]; intro x; exact absurd x (by show ¬ 0 < 0; omega)
    · rw [eL]; rfl
    · rw [eL]; rfl
    · rw [eL]; rfl
    · rw [eL]; show c0S P (P.2.2 0) k rs + 0 ≤ _; omega
  have hix : (addR rs (k, 0, c0S P (P.2.2 0) k rs, 0, 0, 0)).1 = rs.1 + rIx (lastR (addR rs (k, 0, c0S P (P.2.2 0) k rs, 0, 0, 0))) + 1 := by rw [eL]; rfl
  obtain ⟨N2, fp, d1, d2, d3, d4, d5⟩ := g_rwords (base := nSt (P.1 k) * P.2.2 2) (ro := P.2.2 3) (fst := rs.1) o4 (by omega) (by omega) (nCnt (P.1 k)) 0 _ 0 N1 (FU - 20 * nCnt (P.1 k) - 1) (by omega) o2 (LM_FR hL n3) (LSt_FR hS n3) n2 hrb hix
  have hfu : FU - 20 * nCnt (P.1 k) - 1 + 20 * nCnt (P.1 k) + 1 = FU := by simp only [FU]; omega
  rw [hfu] at d1
  have d1' : LGX11_laysRows_69 FU (zI k) (zI ((nSt (P.1 k) * P.2.2 2 : Nat) : Int)) (zI rs.1) 0 N1 = some N2 := d1
  have h2 : ix (2043 : Int32) 2046 = some 2043 := rfl
  refine ⟨N2, ?_, d2, FR_trans n3 d3, ?_⟩
  · rw [g_X11_laysRows, show (2 : Int32) = zI ((2 : Nat) : Int) from rfl, g_of (by omega) (by omega), bnd, h2, bnd, g_leans h ho hk, bnd, p3, q2, e0, bnd]
    have n1' : g_X11_begins M (zI k) 0 (zI (((if lnS P k = true then rCo (lastR rs) + rLe (lastR rs) + 1 else nSt (P.1 k) * P.2.2 2) : Nat) : Int)) 0 0 = some N1 := n1
    rw [n1', bnd, eb, hr.1, d1', bnd]
  · generalize hz : wordsS (P.2.2 0) (min (nSt (P.1 k) * P.2.2 2 + P.2.2 3) (P.2.2 0 - 6)) (nE (P.1 k)) (nCnt (P.1 k)) 0 (addR rs (k, 0, min (if lnS P k = true then rCo (lastR rs) + rLe (lastR rs) + 1 else nSt (P.1 k) * P.2.2 2) (P.2.2 0 - 6), 0, 0, 0)) = z at *
    have ez : layL P (P.2.2 0) k rs = z := hz
    rw [ez]
    obtain ⟨⟨a1, a2, a3, a4, a5, a6⟩, a7, a8⟩ := d4
    have l1 := (o4.2.1 o2).1
    have : rIx (lastR z) ≤ 19 := by
      rcases a7 with a7 | a7
      · omega
      · omega
    exact ⟨by omega, by omega, by omega, a4⟩
/-- stanzas begun by the first k lines; the stanza of line k; rows of stanza s among the first k lines -/
def szN (P : PoT) : Nat → Nat
  | 0 => 0
  | k + 1 => if bgS P k = true then szN P k + 1 else szN P k
def szO (P : PoT) (k : Nat) : Nat := szN P (k + 1) - 1
def lrS (P : PoT) (W k : Nat) : Nat := (layA P W (k + 1)).1 - (layA P W k).1
def srS (P : PoT) (W : Nat) : Nat → Nat → Nat
  | 0, _ => 0
  | k + 1, s => if szO P k = s then srS P W k s + lrS P W k else srS P W k s
theorem szN_le (P : PoT) : ∀ k, szN P k ≤ k ∧ (0 < k → 0 < szN P k)
  | 0 => ⟨Nat.le_refl 0, fun h => by omega⟩
  | k + 1 => by
    obtain ⟨a, b⟩ := szN_le P k
    rw [szN]
    split
    · exact ⟨by omega, fun _ => by omega⟩
    · rename_i h
      refine ⟨by omega, fun _ => b ?_⟩
      by_cases q : k = 0
      · subst q; exact absurd rfl h
      · omega
/-- nothing but rows, and what lines and stanzas have of them, has changed -/
def FD (M N : MS) : Prop := (∀ r j, (r < 4 ∨ 9 < r) → (r < 12 ∨ 15 < r) → mA N r j = mA M r j) ∧ (∀ k, k ≠ 17 → mF N k = mF M k) ∧ mJ N = mJ M
theorem FD_FR {M N : MS} (h : FR M N) : FD M N := ⟨fun r j h1 _ => h.1 r j h1, h.2.1, h.2.2⟩
theorem FD_trans {M N O : MS} (h : FD M N) (g : FD N O) : FD M O := ⟨fun r j hr h2 => (g.1 r j hr h2).trans (h.1 r j hr h2), fun k hk => (g.2.1 k hk).trans (h.2.1 k hk), g.2.2.trans h.2.2⟩
theorem FD_eA {M : MS} (r j : Nat) (v : Int32) (h : 12 ≤ r ∧ r ≤ 15) : FD M (eA M r j v) := ⟨fun r' j' _ h2 => by rw [mA_eA, if_neg (by omega)], fun _ _ => rfl, rfl⟩
theorem RM_eA {M : MS} {rs : RS} (h : RM M rs) (r j : Nat) (v : Int32) (hr : 12 ≤ r ∧ r ≤ 15) : RM (eA M r j v) rs := by
  refine ⟨h.1, fun i hi => ?_⟩
  obtain ⟨a1, a2, a3, a4, a5, a6⟩ := h.2 i hi
  refine ⟨?_, ?_, ?_, ?_, ?_, ?_⟩ <;> rw [mA_eA, if_neg (by omega)] <;> assumption
/-- the reference has drawn the first k lines -/
def DM (M : MS) (P : PoT) (W k : Nat) : Prop := RM M (layA P W k) ∧ (∀ i, i < k → mA M 12 i = zI (szO P i) ∧ mA M 13 i = zI (layA P W i).1 ∧ mA M 14 i = zI (lrS P W i)) ∧ (∀ s, s < szN P k → mA M 15 s = zI (srS P W k s)) ∧ (layA P W k).1 ≤ 20 * k ∧ (0 < k → 0 < (layA P W k).1 ∧ rCo (lastR (layA P W k)) + rLe (lastR (layA P W k)) ≤ 60 ∧ rLn (lastR (layA P W k)) + 1 = k) ∧ (∀ s, s < szN P k → srS P W k s ≤ (layA P W k).1) ∧ ∀ s, szN P k ≤ s → srS P W k s = 0
theorem g_draw1 {P : PoT} (ho : okP P) : ∀ (d k : Nat) (M : MS) (f : Nat), k + d = P.2.1 → PM M P → DM M P (P.2.2 0) k → d < f → ∃ N, LGX11_draws_9 f (zI ((szN P k : Nat) - 1 : Int)) (zI k) M = some N ∧ DM N P (P.2.2 0) P.2.1 ∧ FD M N := by
  intro d
  have h24 := ho.1
  have h40 : ix (2040 : Int32) 2046 = some 2040 := rfl
  induction d with
  | zero =>
    intro k M f hk hp hd hf
    obtain ⟨f, rfl⟩ : ∃ f', f = f' + 1 := ⟨f - 1, by omega⟩
    have e : k = P.2.1 := by omega
    subst e
    refine ⟨M, ?_, hd, ⟨fun _ _ _ _ => rfl, fun _ _ => rfl, rfl⟩⟩
    rw [LGX11_draws_9, h40, bnd, PM_n hp, if_pos ((zN_le (by omega) (by omega)).mpr (by omega))]
  | succ d ih =>
    intro k M f hk hp hd hf
    obtain ⟨f, rfl⟩ : ∃ f', f = f' + 1 := ⟨f - 1, by omega⟩
    obtain ⟨d1, d2, d3, d4, d5, d6, d7⟩ := id hd
    have sk := szN_le P k
    have sk1 := szN_le P (k + 1)
    have ik : ix (zI (k : Int)) 24 = some k := ix_l _ _ (by omega) (by omega)
    -- the stanza
    obtain ⟨M1, m1, m2, m3, m4⟩ : ∃ M1, (if (if bgS P k = true then (1 : Int32) else 0) = 0 then some (zI ((szN P k : Nat) - 1 : Int), M) else (ix (zI ((szN P k : Nat) - 1 : Int) + 1) 24).bind fun j9 => some ((zI ((szN P k : Nat) - 1 : Int) + 1), (eA M 15 j9 0))) = some (zI (szO P k : Nat), M1) ∧ DM M1 P (P.2.2 0) k ∧ FD M M1 ∧ mA M1 15 (szO P k) = zI (srS P (P.2.2 0) k (szO P k)) := by
      cases hb : bgS P k with
      | false =>
        have e1 : szN P (k + 1) = szN P k := by rw [szN, if_neg (by simp [hb])]
        have e2 : szO P k = szN P k - 1 := by rw [szO, e1]
        refine ⟨M, ?_, hd, ⟨fun _ _ _ _ => rfl, fun _ _ => rfl, rfl⟩, d3 _ (by omega)⟩
        rw [if_pos (show (if false = true then (1 : Int32) else 0) = 0 from rfl)]
        congr 3; omega
      | true =>
        have e1 : szN P (k + 1) = szN P k + 1 := by rw [szN, if_pos hb]
        have e2 : szO P k = szN P k := by rw [szO, e1]; omega
        have e3 : zI ((szN P k : Nat) - 1 : Int) + 1 = zI (szO P k : Nat) := by
          rw [show (1 : Int32) = zI (1 : Int) from rfl, zI_add]; congr 1; omega
        refine ⟨eA M 15 (szO P k) 0, ?_, ⟨RM_eA d1 _ _ _ (by omega), fun i hi => ?_, fun s hs => ?_, d4, d5, d6, d7⟩, FD_eA _ _ _ (by omega), ?_⟩
        · rw [if_neg (show ¬ (if true = true then (1 : Int32) else 0) = 0 by decide), e3, ix_l _ _ (by omega) (by omega), bnd]
        · simp only [mA_eA]; rw [if_neg (by omega), if_neg (by omega), if_neg (by omega)]; exact d2 i hi
        · rw [mA_eA, if_neg (by omega)]; exact d3 s hs
        · rw [mA_eA, if_pos ⟨rfl, rfl⟩, d7 _ (by omega)]; rfl
    have p1 : PM M1 P := PM_c hp (fun j => m3.1 0 j (by omega) (by omega))
    obtain ⟨c1, c2, c3, c4, c5, c6, c7⟩ := id m2
    -- the rows
    have f17 : mF (eA M1 12 k (zI (szO P k : Nat))) 17 = zI (layA P (P.2.2 0) k).1 := c1.1
    have r2 : RM (eA (eA M1 12 k (zI (szO P k : Nat))) 13 k (zI (layA P (P.2.2 0) k).1)) (layA P (P.2.2 0) k) := RM_eA (RM_eA c1 _ _ _ (by omega)) _ _ _ (by omega)
    have p2 : PM (eA (eA M1 12 k (zI (szO P k : Nat))) 13 k (zI (layA P (P.2.2 0) k).1)) P := PM_c p1 (fun j => by rw [mA_eA, if_neg (by omega), mA_eA, if_neg (by omega)])
    obtain ⟨N1, n1, n2, n3, n4, n5, n6, n7⟩ := g_laysRows p2 ho (k := k) (by omega) r2 d4 (fun x => by
      have hk0 : 0 < k := by
        by_cases z : k = 0
        · subst z; simp [lnS, bgS] at x
        · omega
      exact ⟨(d5 hk0).1, (d5 hk0).2.1⟩)
    have eL : layL P (P.2.2 0) k (layA P (P.2.2 0) k) = layA P (P.2.2 0) (k + 1) := rfl
    rw [eL] at n2 n4 n5 n6 n7
    have f17' : mF N1 17 = zI (layA P (P.2.2 0) (k + 1)).1 := n2.1
    have a13 : mA N1 13 k = zI (layA P (P.2.2 0) k).1 := by rw [n3.1 13 k (by omega), mA_eA, if_pos ⟨rfl, rfl⟩]
    have e14 : mF N1 17 - mA N1 13 k = zI (lrS P (P.2.2 0) k : Nat) := by rw [f17', a13, zN_sub (by omega)]; rfl
    have iS : ix (zI (szO P k : Nat)) 24 = some (szO P k) := ix_l _ _ (by unfold szO; omega) (by omega)
    have a15 : mA (eA N1 14 k (zI (lrS P (P.2.2 0) k : Nat))) 15 (szO P k) = zI (srS P (P.2.2 0) k (szO P k)) := by
      rw [mA_eA, if_neg (by omega), n3.1 15 _ (by omega), mA_eA, if_neg (by omega), mA_eA, if_neg (by omega)]; exact m4
    have a14 : mA (eA N1 14 k (zI (lrS P (P.2.2 0) k : Nat))) 14 k = zI (lrS P (P.2.2 0) k : Nat) := by rw [mA_eA, if_pos ⟨rfl, rfl⟩]
    have step : LGX11_draws_9 (f + 1) (zI ((szN P k : Nat) - 1 : Int)) (zI k) M = LGX11_draws_9 f (zI (szO P k : Nat)) (zI ((k + 1 : Nat) : Int)) (eA (eA N1 14 k (zI (lrS P (P.2.2 0) k : Nat))) 15 (szO P k) (zI ((srS P (P.2.2 0) k (szO P k) + lrS P (P.2.2 0) k : Nat) : Int))) := by
      rw [LGX11_draws_9, h40, bnd, PM_n hp, if_neg (fun x => by have := (zN_le (by omega) (by omega)).mp x; omega), g_bg hp ho (by omega), bnd, m1, bnd, ik, bnd, bnd, f17, n1, bnd, bnd, bnd, iS, bnd, bnd, bnd, e14, a15, a14, zN_add, zN_add1]
    have eS : zI (szO P k : Nat) = zI ((szN P (k + 1) : Nat) - 1 : Int) := by unfold szO; congr 1; omega
    have fd : FD M (eA (eA N1 14 k (zI (lrS P (P.2.2 0) k : Nat))) 15 (szO P k) (zI ((srS P (P.2.2 0) k (szO P k) + lrS P (P.2.2 0) k : Nat) : Int))) := FD_trans m3 (FD_trans (FD_trans (FD_trans (FD_trans (FD_eA 12 k _ (by omega)) (FD_eA 13 k _ (by omega))) (FD_FR n3)) (FD_eA 14 k _ (by omega))) (FD_eA 15 _ _ (by omega)))
    have dm : DM (eA (eA N1 14 k (zI (lrS P (P.2.2 0) k : Nat))) 15 (szO P k) (zI ((srS P (P.2.2 0) k (szO P k) + lrS P (P.2.2 0) k : Nat) : Int))) P (P.2.2 0) (k + 1) := by
      refine ⟨RM_eA (RM_eA n2 _ _ _ (by omega)) _ _ _ (by omega), fun i hi => ?_, fun s hs => ?_, by omega, fun _ => ⟨by omega, n6, by omega⟩, fun s hs => ?_, fun s hs => ?_⟩
      · by_cases q : i = k
        · subst q
          refine ⟨?_, ?_, ?_⟩
          · rw [mA_eA, if_neg (by omega), mA_eA, if_neg (by omega), n3.1 12 _ (by omega), mA_eA, if_neg (by omega), mA_eA, if_pos ⟨rfl, rfl⟩]
          · rw [mA_eA, if_neg (by omega), mA_eA, if_neg (by omega)]; exact a13
          · rw [mA_eA, if_neg (by omega)]; exact a14
        · obtain ⟨b1, b2, b3⟩ := c2 i (by omega)
          refine ⟨?_, ?_, ?_⟩
          · rw [mA_eA, if_neg (by omega), mA_eA, if_neg (by omega), n3.1 12 _ (by omega), mA_eA, if_neg (by omega), mA_eA, if_neg (by omega)]; exact b1
          · rw [mA_eA, if_neg (by omega), mA_eA, if_neg (by omega), n3.1 13 _ (by omega), mA_eA, if_neg (by omega), mA_eA, if_neg (by omega)]; exact b2
          · rw [mA_eA, if_neg (by omega), mA_eA, if_neg (by omega), n3.1 14 _ (by omega), mA_eA, if_neg (by omega), mA_eA, if_neg (by omega)]; exact b3
      · by_cases q : s = szO P k
        · subst q; rw [mA_eA, if_pos ⟨rfl, rfl⟩, srS, if_pos rfl]
        · rw [mA_eA, if_neg (by omega), mA_eA, if_neg (by omega), n3.1 15 _ (by omega), mA_eA, if_neg (by omega), mA_eA, if_neg (by omega), srS, if_neg (fun x => q x.symm)]
          refine c3 s ?_
          have : szN P (k + 1) ≤ szN P k + 1 := by rw [szN]; split <;> omega
          unfold szO at q
          rw [szN] at hs q
          split at hs
          · rename_i hb; rw [if_pos hb] at q; omega
          · exact hs
      · rw [srS]
        split
        · rename_i q
          have : srS P (P.2.2 0) k s ≤ (layA P (P.2.2 0) k).1 := by
            by_cases z : s < szN P k
            · exact d6 s z
            · rw [d7 s (by omega)]; omega
          unfold lrS; omega
        · have : srS P (P.2.2 0) k s ≤ (layA P (P.2.2 0) k).1 := by
            by_cases z : s < szN P k
            · exact d6 s z
            · rw [d7 s (by omega)]; omega
          omega
      · have : szN P k ≤ szN P (k + 1) := by rw [szN]; split <;> omega
        rw [srS, if_neg (by unfold szO; omega)]
        exact d7 s (by omega)
    obtain ⟨N, x1, x2, x3⟩ := ih (k + 1) _ f (by omega) (PM_c hp (fun j => fd.1 0 j (by omega) (by omega))) dm (by omega)
    rw [← eS] at x1
    exact ⟨N, step.trans x1, x2, FD_trans fd x3⟩

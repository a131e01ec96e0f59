-- the law's areLines
theorem lay_mono (P : PoT) (W : Nat) : ∀ {i j : Nat}, i ≤ j → (layA P W i).1 ≤ (layA P W j).1 := by
  have fm : ∀ d l (c1 : Nat) (rs : RS), rs.1 ≤ (cutS W c1 d l rs).2.1 := by
    intro d
    induction d with
    | zero => intro l c1 rs; exact Nat.le_refl _
    | succ d ih =>
      intro l c1 rs
      rw [cutS]
      split
      · have := ih (l - (W - rCo (lastR rs))) c1 (nxR (setL rs (W - rCo (lastR rs))) c1 (rFr (lastR rs) + (W - rCo (lastR rs))) 1)
        have e : (nxR (setL rs (W - rCo (lastR rs))) c1 (rFr (lastR rs) + (W - rCo (lastR rs))) 1).1 = rs.1 + 1 := rfl
        omega
      · exact Nat.le_refl _
  have wm : ∀ (c1 n fr : Nat) (rs : RS), rs.1 ≤ (wordS W c1 n fr rs).1 := by
    intro c1 n fr rs
    unfold wordS
    split
    · exact Nat.le_refl _
    · unfold putS
      show rs.1 ≤ (cutS W c1 16 n _).2.1
      split
      · have := fm 16 n c1 (nxR rs c1 fr 0)
        have e : (nxR rs c1 fr 0).1 = rs.1 + 1 := rfl
        omega
      · exact fm 16 n c1 rs
  have ws : ∀ (c1 : Nat) (E : Nat → Nat) d j (rs : RS), rs.1 ≤ (wordsS W c1 E d j rs).1 := by
    intro c1 E d
    induction d with
    | zero => intro j rs; exact Nat.le_refl _
    | succ d ih => intro j rs; rw [wordsS]; exact Nat.le_trans (wm _ _ _ _) (ih _ _)
  intro i j h
  induction h with
  | refl => exact Nat.le_refl _
  | @step m h ih =>
    refine Nat.le_trans ih ?_
    show (layA P W m).1 ≤ (wordsS W _ _ _ 0 (addR (layA P W m) _)).1
    refine Nat.le_trans ?_ (ws _ _ _ _ _)
    show (layA P W m).1 ≤ (layA P W m).1 + 1
    omega
theorem lay_ex (P : PoT) (W : Nat) : ∀ n i, i < (layA P W n).1 → ∃ k, k < n ∧ (layA P W k).1 ≤ i ∧ i < (layA P W (k + 1)).1 := by
  intro n
  induction n with
  | zero => intro i h; exact absurd h (Nat.not_lt_zero i)
  | succ n ih =>
    intro i h
    by_cases q : i < (layA P W n).1
    · obtain ⟨k, a, b, c⟩ := ih i q
      exact ⟨k, by omega, b, c⟩
    · exact ⟨n, by omega, by omega, h⟩
theorem rln_iff (P : PoT) (W : Nat) {n i k : Nat} (hi : i < (layA P W n).1) (hk : k < n) : rLn ((layA P W n).2 i) = k ↔ ((layA P W k).1 ≤ i ∧ i < (layA P W (k + 1)).1) := by
  obtain ⟨m, m1, m2, m3⟩ := lay_ex P W n i hi
  obtain ⟨r1, r2⟩ := layA_row P W m1 m2 m3
  constructor
  · intro h
    rw [r1] at h; subst h; exact ⟨m2, m3⟩
  · intro h
    exact (layA_row P W hk h.1 h.2).1
theorem b_letters {x : Nat} {σ : St} {A G R : Nat → Int32} {o0 : Option Nat} {o2 : Option Nat} {o3 o4 o6 o8 o9 : Int32} {k cnt : Nat} {E : Nat → Nat} (h : AR x σ A G R) (hk : k < 6) (hcnt : A (10 * k) = zI (cnt : Int)) (c3 : cnt ≤ 3) (hE : ∀ i, i < cnt → A (10 * k + 1 + i) = zI (E i : Int) ∧ 1 ≤ E i ∧ E i ≤ 16) :
    ∀ (d j f : Nat), j + d = cnt → d < f → LL_areLines_91 f σ o0 (some (x + 42)) o2 o3 o4 (zI (k : Int)) o6 o8 o9 (zI ((stW E j - j : Nat) : Int)) (zI (j : Int)) = some (zI ((stW E cnt - cnt : Nat) : Int)) := by
  intro d
  induction d with
  | zero =>
    intro j f hj hf
    obtain ⟨f, rfl⟩ : ∃ g, f = g + 1 := ⟨f - 1, by omega⟩
    rw [LL_areLines_91, ar_da h, bnd, z10, ar_ia h (by omega), bnd, h.1.2.2 (10 * k), hcnt, if_pos ((zN_le (by omega) (by omega)).mpr (by omega)), show j = cnt by omega]
  | succ d ih =>
    intro j f hj hf
    obtain ⟨f, rfl⟩ : ∃ g, f = g + 1 := ⟨f - 1, by omega⟩
    have hst : ∀ i, i ≤ stW E i := by
      intro i
      induction i with
      | zero => exact Nat.le_refl _
      | succ i ih => rw [stW]; omega
    have := hst j
    have e : zI ((stW E j - j : Nat) : Int) + zI (E j : Int) = zI ((stW E (j + 1) - (j + 1) : Nat) : Int) := by
      rw [zN_add, stW]; congr 2; omega
    rw [LL_areLines_91, ar_da h, bnd, z10, ar_ia h (by omega), bnd, h.1.2.2 (10 * k), hcnt, if_neg (fun y => by have := (zN_le (by omega) (by omega)).mp y; omega), zN_add1, zN_add, ar_ia h (by omega), bnd, h.1.2.2 (10 * k + 1 + j), (hE j (by omega)).1, e, zN_add1]
    exact ih (j + 1) f (by omega) (by omega)
theorem b_rowsOf {x : Nat} {σ : St} {A G R : Nat → Int32} {P : PoT} {W k : Nat} {o0 o1 : Option Nat} {o3 o4 o6 o7 : Int32} (h : AR x σ A G R) (e : ER R (layA P W P.2.1)) (hk : k < P.2.1) (h6 : P.2.1 ≤ 6) (hlt : (layA P W k).1 < (layA P W (k + 1)).1) :
    ∀ (d i f : Nat), i + d = (layA P W P.2.1).1 → d < f → LL_areLines_129 f σ o0 o1 (some (x + 44)) o3 o4 (zI (k : Int)) o6 o7 (zI ((min i (layA P W (k + 1)).1 - (layA P W k).1 : Nat) : Int)) (zI (if i ≤ (layA P W k).1 then -1 else ((layA P W k).1 : Int))) (zI (i : Int)) = some (zI (((layA P W (k + 1)).1 - (layA P W k).1 : Nat) : Int), zI ((layA P W k).1 : Int)) := by
  have hm := lay_mono P W (show k + 1 ≤ P.2.1 by omega)
  have h60 := e.1
  intro d
  induction d with
  | zero =>
    intro i f hi hf
    obtain ⟨f, rfl⟩ : ∃ g, f = g + 1 := ⟨f - 1, by omega⟩
    rw [LL_areLines_129, ar_dr h, bnd, ar_r63 h, bnd, h.2.2.2.2 63, e.2.1, if_pos ((zN_le (by omega) (by omega)).mpr (by omega)), if_neg (by omega), Nat.min_eq_right (by omega)]
  | succ d ih =>
    intro i f hi hf
    obtain ⟨f, rfl⟩ : ∃ g, f = g + 1 := ⟨f - 1, by omega⟩
    obtain ⟨e1, e2⟩ := e.2.2 i (by omega)
    have hiff := rln_iff P W (i := i) (by omega) hk
    have hr16 := e2.1
    have hI := ih (i + 1) f (by omega) (by omega)
    rw [LL_areLines_129, ar_dr h, bnd, ar_r63 h, bnd, h.2.2.2.2 63, e.2.1, if_neg (fun y => by have := (zN_le (by omega) (by omega)).mp y; omega), ar_ir h (by omega), bnd, bnd, h.2.2.2.2 i, e1, dec_ln e2]
    by_cases q : rLn ((layA P W P.2.1).2 i) = k
    · have q2 := hiff.mp q
      have c1 : ¬ ¬ zI (rLn ((layA P W P.2.1).2 i) : Int) = zI (k : Int) := fun y => y (by rw [q])
      rw [if_neg c1, bnd]
      by_cases z : i ≤ (layA P W k).1
      · have zi : i = (layA P W k).1 := by omega
        rw [if_pos z, if_neg (show ¬ (0 : Int32) ≤ zI (-1) by decide), if_neg c1, bnd]
        have a1 : zI ((min i (layA P W (k + 1)).1 - (layA P W k).1 : Nat) : Int) + 1 = zI ((min (i + 1) (layA P W (k + 1)).1 - (layA P W k).1 : Nat) : Int) := by rw [zN_add1]; congr 2; omega
        have a2 : zI (i : Int) = zI (if i + 1 ≤ (layA P W k).1 then -1 else ((layA P W k).1 : Int)) := by rw [if_neg (by omega)]; congr 1; omega
        rw [a1, zN_add1]
        rw [← a2] at hI
        exact hI
      · rw [if_neg z, if_pos (show (0 : Int32) ≤ zI ((layA P W k).1 : Int) from (zN_le (a := 0) (by omega) (by omega)).mpr (Nat.zero_le _)), bnd]
        have a1 : zI ((min i (layA P W (k + 1)).1 - (layA P W k).1 : Nat) : Int) + 1 = zI ((min (i + 1) (layA P W (k + 1)).1 - (layA P W k).1 : Nat) : Int) := by rw [zN_add1]; congr 2; omega
        rw [if_neg (by omega)] at hI
        rw [a1, zN_add1]
        exact hI
    · have q2 : ¬ ((layA P W k).1 ≤ i ∧ i < (layA P W (k + 1)).1) := fun y => q (hiff.mpr y)
      have c1 : ¬ zI (rLn ((layA P W P.2.1).2 i) : Int) = zI (k : Int) := fun y => q ((zN_eq (by omega) (by omega)).mp y)
      rw [if_pos c1, bnd]
      have a1 : zI ((min i (layA P W (k + 1)).1 - (layA P W k).1 : Nat) : Int) + 0 = zI ((min (i + 1) (layA P W (k + 1)).1 - (layA P W k).1 : Nat) : Int) := by
        show _ + zI ((0 : Nat) : Int) = _
        rw [zN_add]; congr 2; omega
      by_cases z : i ≤ (layA P W k).1
      · rw [if_pos (by omega)] at hI
        rw [if_pos z, if_neg (show ¬ (0 : Int32) ≤ zI (-1) by decide), if_pos c1, bnd, a1, zN_add1]
        exact hI
      · rw [if_neg (by omega)] at hI
        rw [if_neg z, if_pos (show (0 : Int32) ≤ zI ((layA P W k).1 : Int) from (zN_le (a := 0) (by omega) (by omega)).mpr (Nat.zero_le _)), bnd, a1, zN_add1]
        exact hI

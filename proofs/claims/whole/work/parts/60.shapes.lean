def wdV (P : PoT) (W i : Nat) : Nat := rCo (rwA P W i) + rLe (rwA P W i)
def mxS (w : Nat → Nat) (f0 : Nat) : Nat → Nat
  | 0 => 0
  | m + 1 => max (mxS w f0 m) (w (f0 + m))
def aimV (sh m i n : Nat) : Nat := if sh = 0 then m else if sh = 1 then m * (i + 1) / n else if sh = 2 then min m (2 * m * min (i + 1) (n - i) / (n + 1)) else m * max (i + 1) (n - i) / n
def abD (a b : Nat) : Nat := if b ≤ a then a - b else b - a
def dsS (w : Nat → Nat) (f0 sh m n : Nat) : Nat → Nat
  | 0 => 0
  | i + 1 => dsS w f0 sh m n i + abD (w (f0 + i)) (aimV sh m i n)
def znF (P : PoT) (W s : Nat) : Nat := (layA P W (sfA P P.2.1 s)).1
def znR (P : PoT) (W s : Nat) : Nat := srS P W P.2.1 s
def dsV (P : PoT) (W s sh : Nat) : Nat := dsS (wdV P W) (znF P W s) sh (mxS (wdV P W) (znF P W s) (znR P W s)) (znR P W s) (znR P W s)
theorem mxS_le {w : Nat → Nat} {f0 b : Nat} : ∀ m, (∀ i, i < m → w (f0 + i) ≤ b) → mxS w f0 m ≤ b
  | 0, _ => Nat.zero_le _
  | m + 1, h => by
    have := mxS_le (w := w) (f0 := f0) (b := b) m (fun i hi => h i (by omega))
    have := h m (by omega)
    rw [mxS]; omega
theorem aim_le {sh m i n : Nat} (hm : m ≤ 60) (hi : i < n) (hn : n ≤ 480) : aimV sh m i n ≤ 60000 ∧ m * (i + 1) ≤ 30000 ∧ 2 * m * min (i + 1) (n - i) ≤ 60000 ∧ m * max (i + 1) (n - i) ≤ 30000 := by
  have h1 : m * (i + 1) ≤ 60 * 480 := Nat.mul_le_mul hm (by omega)
  have h2 : 2 * m * min (i + 1) (n - i) ≤ 120 * 480 := Nat.mul_le_mul (by omega) (by omega)
  have h3 : m * max (i + 1) (n - i) ≤ 60 * 480 := Nat.mul_le_mul hm (by omega)
  refine ⟨?_, by omega, by omega, by omega⟩
  unfold aimV
  have d1 := Nat.div_le_self (m * (i + 1)) n
  have d3 := Nat.div_le_self (m * max (i + 1) (n - i)) n
  split
  · omega
  · split
    · omega
    · split <;> omega
theorem dsS_le {w : Nat → Nat} {f0 sh m n : Nat} (hm : m ≤ 60) (hn : n ≤ 480) (hw : ∀ i, i < n → w (f0 + i) ≤ 60) : ∀ i, i ≤ n → dsS w f0 sh m n i ≤ 60060 * i
  | 0, _ => Nat.le_refl _
  | i + 1, h => by
    have h1 := dsS_le (sh := sh) hm hn hw i (by omega)
    have h2 := hw i (by omega)
    have h3 := (aim_le (sh := sh) hm (show i < n by omega) hn).1
    rw [dsS]; unfold abD; split <;> omega
/-- a stanza's rows -/
theorem stz_sp {P : PoT} {W s : Nat} (hs : s < szN P P.2.1) : 0 < znR P W s ∧ znF P W s + znR P W s ≤ rwN P W ∧ ∀ i k, k < P.2.1 → (layA P W k).1 ≤ i → i < (layA P W (k + 1)).1 → (szO P k = s ↔ znF P W s ≤ i ∧ i < znF P W s + znR P W s) := by
  obtain ⟨b1, b2⟩ := sf_ok P P.2.1 s hs
  have hk0 := sf_lt P P.2.1 s hs
  unfold znF znR rwN
  generalize hk : sfA P P.2.1 s = k0 at *
  obtain ⟨n1, n2, n3, n4⟩ := enF_ok P (P.2.1 - (k0 + 1)) (k0 + 1)
  generalize enF P (P.2.1 - (k0 + 1)) (k0 + 1) = e at *
  have hen : e ≤ P.2.1 := by omega
  obtain ⟨t1, t2, t3⟩ := stz_all (W := W) b1 (show k0 < e by omega) n3 hen (fun x => n4 (by omega))
  rw [b2] at t1 t2 t3
  have m1 := layA_mono P W (show k0 + 1 ≤ e by omega)
  have m2 := layA_lt P W k0
  have m3 := layA_mono P W hen
  rw [t1]
  refine ⟨by omega, by omega, fun i k hkn h1 h2 => ?_⟩
  have inn := fun a b => (stz_in b1 n3 k a b).2.1
  constructor
  · intro x
    have a1 : k0 ≤ k := by
      by_cases y : k0 ≤ k
      · exact y
      · have hz := szN_mono P (show k + 1 ≤ k0 by omega)
        have hz1 := szN_le P (k + 1)
        unfold szO at x; omega
    have a2 : k < e := by
      by_cases y : k < e
      · exact y
      · have hz := szN_mono P (show e + 1 ≤ k + 1 by omega)
        have := szN_bg (n4 (show e < k0 + 1 + (P.2.1 - (k0 + 1)) by omega))
        unfold szO at x; omega
    have := layA_mono P W a1
    have := layA_mono P W (show k + 1 ≤ e by omega)
    omega
  · intro x
    have a1 : k0 ≤ k := by
      by_cases y : k0 ≤ k
      · exact y
      · have := layA_mono P W (show k + 1 ≤ k0 by omega); omega
    have a2 : k < e := by
      by_cases y : k < e
      · exact y
      · have := layA_mono P W (show e ≤ k by omega); omega
    rw [inn a1 a2, b2]

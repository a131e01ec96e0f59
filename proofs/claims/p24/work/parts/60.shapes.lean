def wdV (P : PoT) (W i : Nat) : Nat := rCo (rwA P W i) + rLe (rwA P W i)
def mxS (w : Nat → Nat) (f0 : Nat) : Nat → Nat
  | 0 => 0
  | m + 1 => max (mxS w f0 m) (w (f0 + m))
theorem mxS_le {w : Nat → Nat} {f0 b : Nat} : ∀ m, (∀ i, i < m → w (f0 + i) ≤ b) → mxS w f0 m ≤ b
  | 0, _ => Nat.zero_le _
  | m + 1, h => by
    have := mxS_le (w := w) (f0 := f0) (b := b) m (fun i hi => h i (by omega))
    have := h m (by omega)
    rw [mxS]; omega

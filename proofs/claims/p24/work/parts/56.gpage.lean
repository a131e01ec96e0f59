def qfF (P : PoT) (W H : Nat) : Nat → Nat := qF (pagQ P W H P.2.1)
def qfL (P : PoT) (W H : Nat) : Nat → Nat := qL (pagQ P W H P.2.1)
def rwN (P : PoT) (W : Nat) : Nat := (layA P W P.2.1).1
def rwA (P : PoT) (W i : Nat) : RT := (layA P W P.2.1).2 i
/-- a row's properties -/
def rowV (P : PoT) (W H i w : Nat) : Nat := if w = 0 then rLn (rwA P W i) else if w = 1 then rIx (rwA P W i) else if w = 2 then qfF P W H i else if w = 3 then qfL P W H i else if w = 4 then rCo (rwA P W i) else if w = 5 then rLe (rwA P W i) else if w = 6 then shA P W P.2.1 i else if w = 7 then rWi (rwA P W i) else rCo (rwA P W i) + rLe (rwA P W i)
theorem rwN_le {P : PoT} (ho : okP P) {W : Nat} (hW : 12 ≤ W) (hW2 : W ≤ 60) : rwN P W ≤ 480 := by
  have h24 := ho.1
  have := (layA_ok ho hW hW2 P.2.1 (Nat.le_refl _)).1
  unfold rwN; omega
/-- the byte of a row at a column -/
def byV (P : PoT) (W i col : Nat) : Int32 := if rCo (rwA P W i) ≤ col ∧ col < rCo (rwA P W i) + rLe (rwA P W i) then nB (P.1 (rLn (rwA P W i))) (rFr (rwA P W i) + (col - rCo (rwA P W i))) else 32
/-- the byte at a place of a page -/
def atV (P : PoT) (W H p q col : Nat) : Int32 := match atF (qfF P W H) (qfL P W H) p q (rwN P W) 0 with
  | none => 32
  | some i => byV P W i col

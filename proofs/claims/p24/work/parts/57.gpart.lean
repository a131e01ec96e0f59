/-- a page's properties -/
def pgD (P : PoT) (W H p : Nat) : Nat × Nat × Nat × Nat := pgS (qfF P W H) (qfL P W H) (XR (layA P W P.2.1)) p (rwN P W)
/-- every page has a row -/
def Pos (P : PoT) (W H : Nat) : Prop := ∀ p, p < pgN P W H → 0 < (pgD P W H p).2.1

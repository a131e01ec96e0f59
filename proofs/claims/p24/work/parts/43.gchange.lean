/-- line p is dropped -/
def dropP (P : PoT) (p : Nat) : PoT := (fun i => if i < p then P.1 i else P.1 (i + 1), P.2.1 - 1, P.2.2)
theorem okP_put {P : PoT} (ho : okP P) {p : Nat} {l : LnT} (hl : okL l) : okP (putL P p l) := by
  refine ⟨ho.1, fun k hk => ?_, ho.2.2⟩
  show okL (if k = p then l else P.1 k)
  split
  · exact hl
  · exact ho.2.1 k hk
theorem okP_drop {P : PoT} (ho : okP P) {p : Nat} (hp : p < P.2.1) : okP (dropP P p) := by
  have h24 := ho.1
  refine ⟨by show P.2.1 - 1 ≤ 24; omega, fun k hk => ?_, ho.2.2⟩
  have hk' : k < P.2.1 - 1 := hk
  show okL (if k < p then P.1 k else P.1 (k + 1))
  split
  · exact ho.2.1 k (by omega)
  · exact ho.2.1 (k + 1) (by omega)

abbrev MS : Type := (Nat → Int32) × (Nat → Nat → Int32) × Int64
def eF (M : MS) (k : Nat) (v : Int32) : MS := (fun k1 => if k1 = k then v else M.1 k1, M.2.1, M.2.2)
theorem bnd {α β : Type} (a : α) (F : α → Option β) : (some a).bind F = F a := by
  have h : (some a).bind F = F a := rfl
  rw [h]

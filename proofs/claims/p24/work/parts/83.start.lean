/-- an int array of the start -/
def IA (s : State) (t N : Nat) (f : Nat → Int32) : Prop := ∃ cell : Cell, s.heap[t]? = some cell ∧ s.isArrayOf cell .int ∧ cell.vm ≠ .unknown ∧ cell.slots.size = N ∧ ∀ j, j < N → cell.slots[j]? = some (.int (f j))
theorem st_IA {args : Array Value} {s : State} {tm : Term} {N : Nat} {f : Nat → Int32} (hN : N < 2 ^ 31) (harr : (Cond.arrayOf tm .int).before args s = true) (hle : (Cond.eq (.length tm) (.int (Int32.ofNat N))).before args s = true) (hel : ∀ j, j < N → (Cond.eq (.elem tm (.int (Int32.ofNat j))) (.int (f j))).before args s = true) : ∃ t, tm.eval args s none [] s = some (.ref t) ∧ IA s t N f := by
  obtain ⟨t, ht, cell, h1, h2, h3, h4, h5, h6, -⟩ := va_Tof (f := fun j => .int (f j)) (A := fun _ => False) hN harr (va_eqt hle) (fun j hj => va_eqt (hel j hj)) (fun _ _ h => h)
  refine ⟨t, ht, cell, h1, h2, h3, ?_, h6⟩
  have hv := va_eqt hle
  obtain ⟨b, c2, hb, ha, -⟩ := Term.length_spec hv
  cases ht.symm.trans hb
  obtain ⟨hc, -, -, -⟩ := State.arrayAt?_spec ha
  cases h1.symm.trans hc
  have hsz : cell.slots.size < 2147483648 := by
    simp only [Term.eval, ht, ha, Option.bind_eq_bind, Option.bind_some] at hv
    by_cases hlt : cell.slots.size < 2147483648
    · exact hlt
    · simp [hlt] at hv
  have e := congrArg Int32.toInt h5
  rw [show cell.slots.size.toInt32 = Int32.ofNat cell.slots.size from rfl, Int32.toInt_ofNat_small (by omega), Int32.toInt_ofNat_small hN] at e
  omega
/-- what a cell's place j says as an int -/
def celI (c : Cell) (j : Nat) : Int32 := match c.slots[j]? with
  | some (.int v) => v
  | _ => 0
def gN0 (H : Heap) (S : List Nat) (a : Nat) : Option (Nat × (Nat → Int32)) := if a ∈ S then (H[a]?).map (fun c => (c.slots.size, celI c)) else none
/-- the state at the law's entry: the arrays of S are readable -/
def sg0 (H : Heap) (S : List Nat) (G : Nat → Nat) : St := (H.size, 0, 0, (fun a => if a ∈ S then 20 else 21), (fun a => ((gN0 H S a).map (fun q => q.1)).getD 0), (fun _ _ => 0), (fun _ _ => none), (fun _ _ => 0), (fun a j => ((gN0 H S a).map (fun q => q.2 j)).getD 0), (fun _ _ => none), G)
theorem IA_lt {s : State} {t N : Nat} {f : Nat → Int32} (h : IA s t N f) : t < s.heap.size := by
  obtain ⟨cell, h1, -⟩ := h
  exact (Array.getElem?_eq_some_iff.mp h1).1
theorem IA_cel {cell : Cell} {f : Nat → Int32} {j : Nat} (h : cell.slots[j]? = some (.int (f j))) : celI cell j = f j := by
  unfold celI; rw [h]
theorem gN0_IA {s : State} {S : List Nat} {t N : Nat} {f : Nat → Int32} (h : IA s t N f) (ht : t ∈ S) : ∃ g, gN0 s.heap S t = some (N, g) ∧ ∀ j, j < N → g j = f j := by
  obtain ⟨cell, h1, h2, h3, h4, h5⟩ := h
  refine ⟨celI cell, ?_, fun j hj => IA_cel (h5 j hj)⟩
  rw [gN0, if_pos ht, h1, ← h4]; rfl
theorem sg0_IA {s : State} {S : List Nat} {G : Nat → Nat} {t N : Nat} {f : Nat → Int32} (h : IA s t N f) (ht : t ∈ S) : hpK (sg0 s.heap S G) t = 20 ∧ hpL (sg0 s.heap S G) t = N ∧ ∀ j, j < N → hpA (sg0 s.heap S G) t j = f j := by
  obtain ⟨g, h1, h2⟩ := gN0_IA h ht
  refine ⟨if_pos ht, ?_, fun j hj => ?_⟩
  · show ((gN0 s.heap S t).map (fun q => q.1)).getD 0 = N
    rw [h1]; rfl
  · show ((gN0 s.heap S t).map (fun q => q.2 j)).getD 0 = f j
    rw [h1]; exact h2 j hj
theorem sg0_gN {s : State} {S : List Nat} (hS : ∀ a, a ∈ S → ∃ N f, IA s a N f) {a n : Nat} {f : Nat → Int32} (h : gN0 s.heap S a = some (n, f)) : a < s.heap.size ∧ ∃ cell : Cell, s.heap[a]? = some cell ∧ s.isArrayOf cell .int ∧ cell.vm ≠ .unknown ∧ cell.slots.size = n ∧ ∀ j, j < n → cell.slots[j]? = some (.int (f j)) := by
  by_cases q : a ∈ S
  · obtain ⟨N, g, hI⟩ := hS a q
    have hl := IA_lt hI
    obtain ⟨cell, h1, h2, h3, h4, h5⟩ := hI
    rw [gN0, if_pos q, h1] at h
    cases h
    refine ⟨hl, cell, h1, h2, h3, rfl, fun j hj => ?_⟩
    rw [h5 j (by omega), IA_cel (h5 j (by omega))]
  · rw [gN0, if_neg q] at h; cases h
theorem sg0_rep {s : State} {S : List Nat} {Γ : GE} (hS : ∀ a, a ∈ S → ∃ N f, IA s a N f) (h1 : gB Γ = s.heap.size) (h2 : gH Γ = s.heap) (h3 : gN Γ = gN0 s.heap S) : RepH Γ (sg0 s.heap S (gT Γ)) s.heap := by
  refine ⟨rfl, by rw [h1]; rfl, fun a _ => by rw [h2], ?_, fun a ha => ?_, fun a ha => ?_, fun i => rfl, Nat.zero_le _, Nat.zero_le _⟩
  · rw [h1]
    show ((s.heap.toList.drop s.heap.size).map (fun c => c.slots.size)).sum = 0
    rw [List.drop_of_length_le (by simp)]; rfl
  · exfalso
    have e : hpK (sg0 s.heap S (gT Γ)) a = if a ∈ S then 20 else 21 := rfl
    rw [e] at ha
    by_cases q : a ∈ S
    · rw [if_pos q] at ha; omega
    · rw [if_neg q] at ha; omega
  · have e : hpK (sg0 s.heap S (gT Γ)) a = if a ∈ S then 20 else 21 := rfl
    rw [e] at ha
    by_cases q : a ∈ S
    · obtain ⟨N, f, hI⟩ := hS a q
      obtain ⟨g, g1, g2⟩ := gN0_IA hI q
      obtain ⟨i1, i2, i3⟩ := sg0_IA (G := gT Γ) hI q
      refine ⟨g, by rw [h3, g1, i2], fun j hj => ?_⟩
      rw [i2] at hj
      rw [i3 j hj, g2 j hj]
    · rw [if_neg q] at ha; omega
/-- the array classes -/
theorem arc_int {s : State} {args : Array Value} (h : (Cond.arrayClass .int).before args s = true) : ∃ cA, ArrOfT s cA .int ∧ va_RA s cA .int := by
  obtain ⟨cA, k, comp, h1, h2, h3⟩ := Cond.arrayClass_spec h
  exact ⟨cA, fun n z => ⟨fun k h => (by cases h), k, h2, comp, h3⟩, h1⟩
theorem arc_byte {s : State} {args : Array Value} (h : (Cond.arrayClass .byte).before args s = true) : ∃ cA, ArrOfT s cA .byte ∧ va_RA s cA .byte := by
  obtain ⟨cA, k, comp, h1, h2, h3⟩ := Cond.arrayClass_spec h
  exact ⟨cA, fun n z => ⟨fun k h => (by cases h), k, h2, comp, h3⟩, h1⟩
theorem arc_obj {s : State} {args : Array Value} {C : String} (h : (Cond.arrayOver (.object C)).before args s = true) : ∃ cA, ArrOfT s cA (.object C) ∧ va_RA s cA (.object C) := by
  obtain ⟨comp, c, k, h1, h2, h3, h4, h5⟩ := Cond.arrayOver_spec h
  exact ⟨c, fun n z => ⟨fun k h => (by cases h), k, h3, comp, h4⟩, k, comp, h3, h4, h1, h5⟩

-- the table's words that keep, the frame of the global world, the heap that a state stands for, and Ok: from here the method comes to its end
def TBL : List Cond := lw_tbl.filter goodWord
theorem tb_in (i : Nat) {w : Cond} (h : lw_tbl[i]? = some w) (g : goodWord w = true) : w ∈ TBL := List.mem_filter.mpr ⟨List.mem_of_getElem? h, g⟩
theorem tb_lw {w : Cond} (h : w ∈ TBL) : w ∈ lw_tbl := (List.mem_filter.mp h).1
theorem tb_good {ws : List Cond} (h : ∀ w ∈ ws, w ∈ TBL) : GoodIn TBL ws := fun w hw => ⟨h w hw, good_of_word (List.mem_filter.mp (h w hw)).2⟩
/-- base, the heap at the law's entry, the classes' numbers and slots, the array classes by kind, the static arrays, the statics' addresses, the strings' addresses -/
abbrev GE : Type := Nat × Heap × va_G × (Nat → ClassId) × (Nat → Option (Nat × (Nat → Int32))) × (Nat → Nat) × (Nat → Nat) × (Nat → Nat)
def gB (Γ : GE) : Nat := Γ.1
def gH (Γ : GE) : Heap := Γ.2.1
def gD (Γ : GE) : va_G := Γ.2.2.1
def gA (Γ : GE) : Nat → ClassId := Γ.2.2.2.1
def gN (Γ : GE) : Nat → Option (Nat × (Nat → Int32)) := Γ.2.2.2.2.1
def gT (Γ : GE) : Nat → Nat := Γ.2.2.2.2.2.1
def gK (Γ : GE) : Nat → Nat := Γ.2.2.2.2.2.2.1
def gV (Γ : GE) : Nat → Nat := Γ.2.2.2.2.2.2.2
def aty (k : Nat) : FieldType := match k with
  | 12 => .byte
  | 13 => .int
  | 14 => .object RX2
  | 15 => .object RX3
  | 16 => .object RX4
  | 17 => .object RX5
  | 18 => .object RX6
  | _ => .object RX7
/-- the class of the elements of an array of kind k -/
def ecl (k : Nat) : Nat := match k with
  | 14 => 2
  | 15 => 3
  | 16 => 4
  | 17 => 5
  | 18 => 6
  | _ => 7
def tysG (Γ : GE) : List (ClassId × FieldType) := (List.range 8).map fun i => (gA Γ (12 + i), aty (12 + i))
theorem tysG_at (Γ : GE) {k : Nat} (h1 : 12 ≤ k) (h2 : k < 20) : (tysG Γ)[k - 12]? = some (gA Γ k, aty k) := by
  have h : k - 12 < 8 := by omega
  simp only [tysG, List.getElem?_map, List.getElem?_range h, Option.map_some]
  rw [show 12 + (k - 12) = k by omega]
def strLen : List Nat := [6, 5, 7, 5, 0]
def strByt : List (List Int32) := [[115, 113, 117, 97, 114, 101], [119, 101, 100, 103, 101], [100, 105, 97, 109, 111, 110, 100], [103, 108, 97, 115, 115], []]
def strTx : List String := ["square", "wedge", "diamond", "glass", ""]
def stNm : List String := ["AT_FIRST", "LEAST", "GREATEST"]
def NMl : List (String × Nat × MethodName) := [(RX10, 11, yX8_init), (RX5, 28, yX10_element), (RX10, 32, yX1_init), (RX8, 26, yX10_isLetter), (RX8, 37, yX10_shapeName), (RX8, 47, yX9_init), (RX1, 244, yX7_init), (RX1, 240, yX3_init), (RX1, 236, yX6_init), (RX9, 33, yX10_element), (RX1, 245, yX4_init), (RX1, 67, yX10_oneIf)]
/-- what the tables say, and what lies below base, for the whole run -/
def Glob (Γ : GE) (U : State) : Prop :=
  va_K (gD Γ) vwCl (tysG Γ) U ∧
  (∀ q ∈ NMl, va_Nw (.methodLinkNest q.1 q.2.1 q.2.2 RX10) U) ∧
  va_Nw (.fieldLinkNest RX5 25 RX10 "AT_FIRST" "[I" RX10) U ∧
  (∀ k, 14 ≤ k → k < 20 → ∀ C, aty k = .object C → va_AO C U) ∧
  (∀ i nm, stNm[i]? = some nm → va_Z RX10 nm "[I" (.ref (gT Γ i)) (fun q => gB Γ ≤ q) U (gH Γ)) ∧
  (∀ a n f, gN Γ a = some (n, f) → a < gB Γ ∧ ∃ cell : Cell, (gH Γ)[a]? = some cell ∧ U.isArrayOf cell .int ∧ cell.vm ≠ .unknown ∧ cell.slots.size = n ∧ ∀ j, j < n → cell.slots[j]? = some (.int (f j))) ∧
  (vk_S 5 strLen strByt (gK Γ) (gV Γ) (fun q => gB Γ ≤ q) U (gH Γ) ∧ (∀ i tx, strTx[i]? = some tx → vk_R RX10 (305 + 2 * i) tx (gK Γ i) U)) ∧
  (va_Z "java/lang/String" "COMPACT_STRINGS" "Z" (.int 1) (fun q => gB Γ ≤ q) U (gH Γ) ∧ ∃ v : Value, (v = .null ∨ ∃ t, v = .ref t) ∧ va_Z "jdk/internal/util/Preconditions" "SIOOBE_FORMATTER" "Ljava/util/function/BiFunction;" v (fun q => gB Γ ≤ q) U (gH Γ))
theorem Glob.warm {Γ : GE} {s U : State} (hW : s.WarmedH U.vm) (h : Glob Γ s) : Glob Γ U := by
  obtain ⟨h1, h2, h3, h4, h5, h6, ⟨h7, h8⟩, h9, v, hv, h10⟩ := h
  have hal := hW.alike
  refine ⟨va_K.moved hal h1, fun q hq => va_Nw.warmM hW (h2 q hq), va_Nw.warmF hW h3, fun k a b C hC => va_AO.moved hal (h4 k a b C hC), fun i nm hi => va_Z.moved hal (h5 i nm hi), fun a n f hf => ?_, ⟨vk_S.moved hal h7, fun i tx hi => vk_R.warm hW (h8 i tx hi)⟩, va_Z.moved hal h9, v, hv, va_Z.moved hal h10⟩
  obtain ⟨hb, cell, a1, a2, a3⟩ := h6 a n f hf
  exact ⟨hb, cell, a1, State.isArrayOf_alike hal a2, a3⟩
/-- the type of a field: 0 int or boolean, 1 a reference, 2 long -/
def ftab : List (List Nat) := [[1, 0], [1, 1, 1, 1, 0, 0, 0, 0, 0], [1, 0, 0, 0], [0, 0, 0, 0, 0], [0, 0, 0, 0, 0], [1, 1, 0], [0, 0, 0, 0, 0, 0, 0, 0, 0], [0, 0, 0], [1, 0], [1, 1, 0, 0, 0], [1, 1, 1, 1, 1], [1, 1, 0, 1, 0, 0, 0, 1, 0, 1, 1, 1, 1, 1, 1, 1, 1, 0, 1, 1, 1, 1, 0, 0, 0, 2]]
def fty (ci k : Nat) : Nat := (ftab.getD ci []).getD k 0
def oV (σ : St) (ci a k : Nat) : Value := match fty ci k with
  | 0 => .int (hpI σ (32 * ci + k) a)
  | 1 => va_rf (hpR σ (32 * ci + k) a)
  | _ => .long (hpJ σ (32 * ci + k) a)
def CellAt (Γ : GE) (σ : St) (H : Heap) (a : Nat) : Prop :=
  (hpK σ a < 12 → t_OB a ((gD Γ).1 (hpK σ a)) (nfl (hpK σ a)) ((gD Γ).2 (hpK σ a)) H (oV σ (hpK σ a) a)) ∧
  ((hpK σ a = 12 ∨ hpK σ a = 13) → H[a]? = some (arrV (gA Γ (hpK σ a)) (hpL σ a) (fun j => .int (hpA σ a j)))) ∧
  (14 ≤ hpK σ a → H[a]? = some (arrV (gA Γ (hpK σ a)) (hpL σ a) (fun j => va_rf (hpB σ a j))))
def hsz (b : Nat) (H : Heap) : Nat := ((H.toList.drop b).map (fun c => c.slots.size)).sum
/-- the heap H is what the state σ says: its cells from base on, and the static arrays -/
def RepH (Γ : GE) (σ : St) (H : Heap) : Prop :=
  H.size = hpN σ ∧ hpN σ = gB Γ + hpC σ ∧ (∀ a, a < gB Γ → H[a]? = (gH Γ)[a]?) ∧ hsz (gB Γ) H = hpS σ ∧
  (∀ a, hpK σ a < 20 → gB Γ ≤ a ∧ a < hpN σ ∧ CellAt Γ σ H a) ∧
  (∀ a, hpK σ a = 20 → ∃ f, gN Γ a = some (hpL σ a, f) ∧ ∀ j, j < hpL σ a → hpA σ a j = f j) ∧ (∀ i, hpG σ i = gT Γ i) ∧ hpC σ ≤ NX ∧ hpS σ ≤ SX
theorem hsz_same {b : Nat} {H H1 : Heap} (hz : H1.size = H.size) (hq : ∀ q : Nat, (H1[q]?).map (fun c => c.slots.size) = (H[q]?).map (fun c => c.slots.size)) : hsz b H1 = hsz b H := by
  have h : H1.toList.map (fun c => c.slots.size) = H.toList.map (fun c => c.slots.size) := by
    apply List.ext_getElem?
    intro q
    rw [List.getElem?_map, List.getElem?_map, Array.getElem?_toList, Array.getElem?_toList]
    exact hq q
  unfold hsz
  rw [List.map_drop, List.map_drop, h]
theorem hsz_push {b : Nat} {H : Heap} (hb : b ≤ H.size) (x : Cell) : hsz b (H.push x) = hsz b H + x.slots.size := by
  unfold hsz
  rw [Array.toList_push, List.drop_append_of_le_length (by simpa using hb), List.map_append, List.sum_append]
  simp
theorem hsz_split {b n : Nat} {H0 H : Heap} (hb : b ≤ n) (hn : H0.size = n) (hz : n ≤ H.size) (hq : ∀ q : Nat, q < n → (H[q]?).map (fun c => c.slots.size) = (H0[q]?).map (fun c => c.slots.size)) : hsz b H = hsz b H0 + hsz n H := by
  have key : ∀ (l0 l : List Nat), l0.length = n → n ≤ l.length → (∀ q, q < n → l[q]? = l0[q]?) → (l.drop b).sum = (l0.drop b).sum + (l.drop n).sum := by
    intro l0 l h0 h1 h2
    have e : l = l0 ++ l.drop n := by
      apply List.ext_getElem?
      intro q
      by_cases hqn : q < n
      · rw [List.getElem?_append_left (by omega), h2 q hqn]
      · rw [List.getElem?_append_right (by omega), List.getElem?_drop, h0]
        congr 1
        omega
    conv => lhs; rw [e]
    rw [List.drop_append_of_le_length (by omega), List.sum_append]
  unfold hsz
  rw [List.map_drop, List.map_drop, List.map_drop]
  refine key _ _ (by simp [hn]) (by simpa using hz) (fun q h => ?_)
  rw [List.getElem?_map, List.getElem?_map, Array.getElem?_toList, Array.getElem?_toList]
  exact hq q h
section OK1
variable {p : Program} {l : Launch} {e : Env} {R : Room} {s : State} {m : MethodId} {args : Array Value} {below : List Frame} {meth : Method} {c : Code} {H : Heap} {locs : List Loc} {cells slots : Nat} {Q : State → Prop} {Γ : GE} {σ0 σ : St}
/-- the counters are what the heap says -/
theorem st_tight {T : State} (h0 : RepH Γ σ0 s.heap) (hR : RepH Γ σ H) (hT : T.heap = H) (X : Stand p l e R s m args below meth c T locs cells slots) : Stand p l e R s m args below meth c T locs (hpC σ - hpC σ0) (hpS σ - hpS σ0) ∧ hpC σ0 ≤ hpC σ ∧ hpS σ0 ≤ hpS σ := by
  obtain ⟨a1, a2, a3, a4, a5, a6⟩ := X.same
  have e1 : (T.setVm s.vm).heap = H := hT
  have hz0 := h0.1
  have hz := hR.1
  have hb0 := h0.2.1
  have hb := hR.2.1
  rw [e1] at a2 a3 a4 a5 a6
  have hsp := hsz_split (b := gB Γ) (n := s.heap.size) (H0 := s.heap) (H := H) (by omega) rfl (by omega) (fun q hq => by
    obtain ⟨cq, hcq⟩ : ∃ cq, s.heap[q]? = some cq := ⟨s.heap[q], by simp [hq]⟩
    obtain ⟨c', hc', -, hsl, -⟩ := a6 q cq hcq
    rw [hc', hcq]
    simp [hsl])
  have hs0 := h0.2.2.2.1
  have hs := hR.2.2.2.1
  refine ⟨{ X with same := ⟨a1, by rw [e1]; exact a2, by rw [e1]; omega, by rw [e1]; exact a4, ?_, by rw [e1]; exact a6⟩ }, by omega, by omega⟩
  rw [e1]
  show hsz s.heap.size H ≤ _
  omega
/-- from the frame at pc, with these locals and this stack, over any heap that is what σ says, the method comes to Q -/
def Ok (p : Program) (l : Launch) (e : Env) (R : Room) (s : State) (m : MethodId) (args : Array Value) (below : List Frame) (meth : Method) (c : Code) (Γ : GE) (nL : Nat) (Q : State → Prop) (pc : Nat) (L : List (Nat × Value)) (st : List Value) (σ : St) : Prop :=
  ∀ (H : Heap) (locs : List Loc) (ls : Array Slot), RepH Γ σ H → (∀ q ∈ locs, gB Γ ≤ q.base) → lv_has ls nL L → W p l e R s m args below meth c H locs R.cells R.slots Q (F0 m pc ls st)
/-- the fixed things of a method's walk -/
def Cx (p : Program) (R : Room) (s : State) (m : MethodId) (args : Array Value) (c : Code) (Γ : GE) (nL : Nat) (σ0 : St) (cc : ByteArray) (own : String) : Prop :=
  p.tables.exec = Jvm.exec ∧ c.code = cc ∧ c.maxLocals = nL ∧ s.vm.findClass own = some m.cls ∧ (∀ w ∈ TBL, w.before args s = true) ∧ Glob Γ s ∧ RepH Γ σ0 s.heap ∧ (R.cells = NX - hpC σ0 ∧ R.slots = SX - hpS σ0)
end OK1
section OKL
variable {p : Program} {l : Launch} {e : Env} {R : Room} {s : State} {m : MethodId} {args : Array Value} {below : List Frame} {meth : Method} {c : Code} {Q : State → Prop} {Γ : GE} {σ0 σ : St} {nL pc : Nat} {cc : ByteArray} {own : String} {L L' : List (Nat × Value)} {st : List Value}
theorem k_iload_n (cx : Cx p R s m args c Γ nL σ0 cc own) {k : Fin 4} {i : Nat} (n : Nat) {x : Int32} (hd : decode cc pc = .ok (.iload_n k, 1)) (hi : (k : Nat) = i) (hl : L[n]? = some (i, .int x)) (h : Ok p l e R s m args below meth c Γ nL Q (pc + 1) L (.int x :: st) σ) : Ok p l e R s m args below meth c Γ nL Q pc L st σ :=
  fun H locs ls hR hL hls => lv_iload_n cx.1 cx.2.1 hd hi (lv_at hls n hl) (h H locs ls hR hL hls)
theorem k_iload (cx : Cx p R s m args c Γ nL σ0 cc own) {i : Nat} (n : Nat) {x : Int32} (hd : decode cc pc = .ok (.iload i, 2)) (hl : L[n]? = some (i, .int x)) (h : Ok p l e R s m args below meth c Γ nL Q (pc + 2) L (.int x :: st) σ) : Ok p l e R s m args below meth c Γ nL Q pc L st σ :=
  fun H locs ls hR hL hls => lv_iload cx.1 cx.2.1 hd (lv_at hls n hl) (h H locs ls hR hL hls)
theorem k_lload_n (cx : Cx p R s m args c Γ nL σ0 cc own) {k : Fin 4} {i : Nat} (n : Nat) {x : Int64} (hd : decode cc pc = .ok (.lload_n k, 1)) (hi : (k : Nat) = i) (hl : L[n]? = some (i, .long x)) (h : Ok p l e R s m args below meth c Γ nL Q (pc + 1) L (.long x :: st) σ) : Ok p l e R s m args below meth c Γ nL Q pc L st σ :=
  fun H locs ls hR hL hls => lv_lload_n cx.1 cx.2.1 hd hi (lv_at hls n hl) (h H locs ls hR hL hls)
theorem k_aload_n (cx : Cx p R s m args c Γ nL σ0 cc own) {k : Fin 4} {i : Nat} (n : Nat) {x : Option Nat} (hd : decode cc pc = .ok (.aload_n k, 1)) (hi : (k : Nat) = i) (hl : L[n]? = some (i, va_rf x)) (h : Ok p l e R s m args below meth c Γ nL Q (pc + 1) L (va_rf x :: st) σ) : Ok p l e R s m args below meth c Γ nL Q pc L st σ := by
  intro H locs ls hR hL hls
  cases x with
  | none => exact lv_aload_nN cx.1 cx.2.1 hd hi (lv_at hls n hl) (h H locs ls hR hL hls)
  | some a => exact lv_aload_n cx.1 cx.2.1 hd hi (lv_at hls n hl) (h H locs ls hR hL hls)
theorem k_aload (cx : Cx p R s m args c Γ nL σ0 cc own) {i : Nat} (n : Nat) {x : Option Nat} (hd : decode cc pc = .ok (.aload i, 2)) (hl : L[n]? = some (i, va_rf x)) (h : Ok p l e R s m args below meth c Γ nL Q (pc + 2) L (va_rf x :: st) σ) : Ok p l e R s m args below meth c Γ nL Q pc L st σ := by
  intro H locs ls hR hL hls
  cases x with
  | none => exact lv_aloadN cx.1 cx.2.1 hd (lv_at hls n hl) (h H locs ls hR hL hls)
  | some a => exact lv_aload cx.1 cx.2.1 hd (lv_at hls n hl) (h H locs ls hR hL hls)
theorem k_istore_n (cx : Cx p R s m args c Γ nL σ0 cc own) {k : Fin 4} {i : Nat} (L' : List (Nat × Value)) {x : Int32} (hd : decode cc pc = .ok (.istore_n k, 1)) (hi : (k : Nat) = i) (hn : i < nL) (hl : (i, Value.int x) :: L.filter (fun q => !(q.1 == i) && !(q.1 + 1 == i && q.2.category == 2)) = L') (h : Ok p l e R s m args below meth c Γ nL Q (pc + 1) L' st σ) : Ok p l e R s m args below meth c Γ nL Q pc L (.int x :: st) σ :=
  fun H locs ls hR hL hls => lv_istore_n cx.1 cx.2.1 hd hi hls hn hl (fun ls' hls' => h H locs ls' hR hL hls')
theorem k_istore (cx : Cx p R s m args c Γ nL σ0 cc own) {i : Nat} (L' : List (Nat × Value)) {x : Int32} (hd : decode cc pc = .ok (.istore i, 2)) (hn : i < nL) (hl : (i, Value.int x) :: L.filter (fun q => !(q.1 == i) && !(q.1 + 1 == i && q.2.category == 2)) = L') (h : Ok p l e R s m args below meth c Γ nL Q (pc + 2) L' st σ) : Ok p l e R s m args below meth c Γ nL Q pc L (.int x :: st) σ :=
  fun H locs ls hR hL hls => lv_istore cx.1 cx.2.1 hd hls hn hl (fun ls' hls' => h H locs ls' hR hL hls')
theorem k_lstore_n (cx : Cx p R s m args c Γ nL σ0 cc own) {k : Fin 4} {i : Nat} (L' : List (Nat × Value)) {x : Int64} (hd : decode cc pc = .ok (.lstore_n k, 1)) (hi : (k : Nat) = i) (hn : i + 1 < nL) (hl : (i, Value.long x) :: L.filter (fun q => !(q.1 == i) && (!(q.1 == i + 1) && !(q.1 + 1 == i && q.2.category == 2))) = L') (h : Ok p l e R s m args below meth c Γ nL Q (pc + 1) L' st σ) : Ok p l e R s m args below meth c Γ nL Q pc L (.long x :: st) σ :=
  fun H locs ls hR hL hls => lv_lstore_n cx.1 cx.2.1 hd hi hls hn hl (fun ls' hls' => h H locs ls' hR hL hls')
theorem k_astore_n (cx : Cx p R s m args c Γ nL σ0 cc own) {k : Fin 4} {i : Nat} (L' : List (Nat × Value)) {x : Option Nat} (hd : decode cc pc = .ok (.astore_n k, 1)) (hi : (k : Nat) = i) (hn : i < nL) (hl : (i, va_rf x) :: L.filter (fun q => !(q.1 == i) && !(q.1 + 1 == i && q.2.category == 2)) = L') (h : Ok p l e R s m args below meth c Γ nL Q (pc + 1) L' st σ) : Ok p l e R s m args below meth c Γ nL Q pc L (va_rf x :: st) σ := by
  intro H locs ls hR hL hls
  cases x with
  | none => exact lv_astore_nN cx.1 cx.2.1 hd hi hls hn hl (fun ls' hls' => h H locs ls' hR hL hls')
  | some a => exact lv_astore_n cx.1 cx.2.1 hd hi hls hn hl (fun ls' hls' => h H locs ls' hR hL hls')
theorem k_astore (cx : Cx p R s m args c Γ nL σ0 cc own) {i : Nat} (L' : List (Nat × Value)) {x : Option Nat} (hd : decode cc pc = .ok (.astore i, 2)) (hn : i < nL) (hl : (i, va_rf x) :: L.filter (fun q => !(q.1 == i) && !(q.1 + 1 == i && q.2.category == 2)) = L') (h : Ok p l e R s m args below meth c Γ nL Q (pc + 2) L' st σ) : Ok p l e R s m args below meth c Γ nL Q pc L (va_rf x :: st) σ := by
  intro H locs ls hR hL hls
  cases x with
  | none => exact lv_astoreN cx.1 cx.2.1 hd hls hn hl (fun ls' hls' => h H locs ls' hR hL hls')
  | some a => exact lv_astore cx.1 cx.2.1 hd hls hn hl (fun ls' hls' => h H locs ls' hR hL hls')
theorem k_iinc (cx : Cx p R s m args c Γ nL σ0 cc own) {i : Nat} (k : Nat) (L' : List (Nat × Value)) {n : Int} {x : Int32} (v : Int32) (hd : decode cc pc = .ok (.iinc i n, 3)) (hk : L[k]? = some (i, .int x)) (hv : x + Int32.ofInt n = v) (hn : i < nL) (hl : (i, Value.int v) :: L.filter (fun q => !(q.1 == i) && !(q.1 + 1 == i && q.2.category == 2)) = L') (h : Ok p l e R s m args below meth c Γ nL Q (pc + 3) L' st σ) : Ok p l e R s m args below meth c Γ nL Q pc L st σ :=
  fun H locs ls hR hL hls => lv_iinc cx.1 cx.2.1 hd hls hk hv hn hl (fun ls' hls' => h H locs ls' hR hL hls')
/-- the same place with fewer locals -/
theorem k_sub (ks : List Nat) (hl : lv_pick L ks = L') (h : Ok p l e R s m args below meth c Γ nL Q pc L' st σ) : Ok p l e R s m args below meth c Γ nL Q pc L st σ :=
  fun H locs ls hR hL hls => h H locs ls hR hL (lv_sub hls ks hl)
theorem k_iconst (cx : Cx p R s m args c Γ nL σ0 cc own) {n : Int} (v : Int32) (hd : decode cc pc = .ok (.iconst n, 1)) (hv : Int32.ofInt n = v) (h : Ok p l e R s m args below meth c Γ nL Q (pc + 1) L (.int v :: st) σ) : Ok p l e R s m args below meth c Γ nL Q pc L st σ :=
  fun H locs ls hR hL hls => lv_iconst cx.1 cx.2.1 hd hv (h H locs ls hR hL hls)
theorem k_bipush (cx : Cx p R s m args c Γ nL σ0 cc own) {n : Int} (v : Int32) (hd : decode cc pc = .ok (.bipush n, 2)) (hv : (Int8.ofInt n).toInt32 = v) (h : Ok p l e R s m args below meth c Γ nL Q (pc + 2) L (.int v :: st) σ) : Ok p l e R s m args below meth c Γ nL Q pc L st σ :=
  fun H locs ls hR hL hls => lv_bipush cx.1 cx.2.1 hd hv (h H locs ls hR hL hls)
theorem k_sipush (cx : Cx p R s m args c Γ nL σ0 cc own) {n : Int} (v : Int32) (hd : decode cc pc = .ok (.sipush n, 3)) (hv : (Int16.ofInt n).toInt32 = v) (h : Ok p l e R s m args below meth c Γ nL Q (pc + 3) L (.int v :: st) σ) : Ok p l e R s m args below meth c Γ nL Q pc L st σ :=
  fun H locs ls hR hL hls => lv_sipush cx.1 cx.2.1 hd hv (h H locs ls hR hL hls)
theorem k_null (cx : Cx p R s m args c Γ nL σ0 cc own) (hd : decode cc pc = .ok (.aconst_null, 1)) (h : Ok p l e R s m args below meth c Γ nL Q (pc + 1) L (va_rf none :: st) σ) : Ok p l e R s m args below meth c Γ nL Q pc L st σ :=
  fun H locs ls hR hL hls => lv_null cx.1 cx.2.1 hd (h H locs ls hR hL hls)
theorem k_dup (cx : Cx p R s m args c Γ nL σ0 cc own) {v : Value} (hc : v.category = 1) (hd : decode cc pc = .ok (.dup, 1)) (h : Ok p l e R s m args below meth c Γ nL Q (pc + 1) L (v :: v :: st) σ) : Ok p l e R s m args below meth c Γ nL Q pc L (v :: st) σ :=
  fun H locs ls hR hL hls => lv_dup cx.1 cx.2.1 hd hc (h H locs ls hR hL hls)
theorem k_dup2 (cx : Cx p R s m args c Γ nL σ0 cc own) {v w : Value} (hc : v.category = 1) (hc2 : w.category = 1) (hd : decode cc pc = .ok (.dup2, 1)) (h : Ok p l e R s m args below meth c Γ nL Q (pc + 1) L (v :: w :: v :: w :: st) σ) : Ok p l e R s m args below meth c Γ nL Q pc L (v :: w :: st) σ :=
  fun H locs ls hR hL hls => lv_dup2_11 cx.1 cx.2.1 hd hc hc2 (h H locs ls hR hL hls)
theorem k_goto (cx : Cx p R s m args c Γ nL σ0 cc own) {off : Int} (tgt : Nat) (hd : decode cc pc = .ok (.goto off, 3)) (ht : (pc : Int) + off = (tgt : Int)) (h : Ok p l e R s m args below meth c Γ nL Q tgt L st σ) : Ok p l e R s m args below meth c Γ nL Q pc L st σ :=
  fun H locs ls hR hL hls => lv_goto cx.1 cx.2.1 hd ht (h H locs ls hR hL hls)
theorem cat_rf (x : Option Nat) : (va_rf x).category = 1 := by cases x <;> rfl
theorem k_ifnull (cx : Cx p R s m args c Γ nL σ0 cc own) {x : Option Nat} {off : Int} (tgt : Nat) (hd : decode cc pc = .ok (.ifnull off, 3)) (ht : (pc : Int) + off = (tgt : Int)) (h1 : x = none → Ok p l e R s m args below meth c Γ nL Q tgt L st σ) (h2 : ∀ a, x = some a → Ok p l e R s m args below meth c Γ nL Q (pc + 3) L st σ) : Ok p l e R s m args below meth c Γ nL Q pc L (va_rf x :: st) σ := by
  intro H locs ls hR hL hls
  cases x with
  | none => exact lv_ifnullN cx.1 cx.2.1 hd ht (h1 rfl H locs ls hR hL hls)
  | some a => exact lv_ifnull cx.1 cx.2.1 hd (h2 a rfl H locs ls hR hL hls)
theorem k_ifnonnull (cx : Cx p R s m args c Γ nL σ0 cc own) {x : Option Nat} {off : Int} (tgt : Nat) (hd : decode cc pc = .ok (.ifnonnull off, 3)) (ht : (pc : Int) + off = (tgt : Int)) (h1 : x = none → Ok p l e R s m args below meth c Γ nL Q (pc + 3) L st σ) (h2 : ∀ a, x = some a → Ok p l e R s m args below meth c Γ nL Q tgt L st σ) : Ok p l e R s m args below meth c Γ nL Q pc L (va_rf x :: st) σ := by
  intro H locs ls hR hL hls
  cases x with
  | none => exact lv_ifnonnullN cx.1 cx.2.1 hd (h1 rfl H locs ls hR hL hls)
  | some a => exact lv_ifnonnull cx.1 cx.2.1 hd ht (h2 a rfl H locs ls hR hL hls)
end OKL

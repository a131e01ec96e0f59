-- ===== PART A: goes FIRST, ahead of the names: the tables' words, and 'selects' of the private methods out of them =====
/-- a private method of a class that the tables say can be made, by its rows of tables_1 -/
def lw_okq (q : MethodName × Nat) : Prop := (q.1.cls ≠ "java/lang/invoke/MethodHandle" ∧ q.1.cls ≠ "java/lang/invoke/VarHandle") ∧ Cond.instantiable q.1.cls q.2 ∈ tables_1 ∧ Cond.privateMethod q.1 ∈ tables_1 ∧ Cond.instanceMethod q.1 ∈ tables_1
theorem lw_p0 : lw_okq (⟨"PoemPages$Text", "behindBlanks", "(I)I"⟩, 2) := ⟨⟨by decide +kernel, by decide +kernel⟩, List.mem_of_getElem? (i := 26) (by decide +kernel), List.mem_of_getElem? (i := 157) (by decide +kernel), List.mem_of_getElem? (i := 158) (by decide +kernel)⟩
theorem lw_p1 : lw_okq (⟨"PoemPages$Text", "behindLetters", "(I)I"⟩, 2) := ⟨⟨by decide +kernel, by decide +kernel⟩, List.mem_of_getElem? (i := 26) (by decide +kernel), List.mem_of_getElem? (i := 165) (by decide +kernel), List.mem_of_getElem? (i := 166) (by decide +kernel)⟩
theorem lw_p2 : lw_okq (⟨"PoemPages$Text", "isBetween", "(IILjava/lang/String;)Z"⟩, 2) := ⟨⟨by decide +kernel, by decide +kernel⟩, List.mem_of_getElem? (i := 26) (by decide +kernel), List.mem_of_getElem? (i := 180) (by decide +kernel), List.mem_of_getElem? (i := 181) (by decide +kernel)⟩
theorem lw_p3 : lw_okq (⟨"PoemPages$History", "dropOldest", "()V"⟩, 2) := ⟨⟨by decide +kernel, by decide +kernel⟩, List.mem_of_getElem? (i := 67) (by decide +kernel), List.mem_of_getElem? (i := 244) (by decide +kernel), List.mem_of_getElem? (i := 245) (by decide +kernel)⟩
theorem lw_p4 : lw_okq (⟨"PoemPages$History", "stateAt", "(I)LPoemPages$Poem;"⟩, 2) := ⟨⟨by decide +kernel, by decide +kernel⟩, List.mem_of_getElem? (i := 67) (by decide +kernel), List.mem_of_getElem? (i := 248) (by decide +kernel), List.mem_of_getElem? (i := 249) (by decide +kernel)⟩
theorem lw_p5 : lw_okq (⟨"PoemPages$Words", "append", "(I)V"⟩, 5) := ⟨⟨by decide +kernel, by decide +kernel⟩, List.mem_of_getElem? (i := 268) (by decide +kernel), List.mem_of_getElem? (i := 297) (by decide +kernel), List.mem_of_getElem? (i := 298) (by decide +kernel)⟩
theorem lw_p6 : lw_okq (⟨"PoemPages", "layOut", "()V"⟩, 5) := ⟨⟨by decide +kernel, by decide +kernel⟩, List.mem_of_getElem? (i := 18) (by decide +kernel), List.mem_of_getElem? (i := 332) (by decide +kernel), List.mem_of_getElem? (i := 333) (by decide +kernel)⟩
theorem lw_p7 : lw_okq (⟨"PoemPages$Layout", "addStanza", "(I)LPoemPages$Stanza;"⟩, 9) := ⟨⟨by decide +kernel, by decide +kernel⟩, List.mem_of_getElem? (i := 84) (by decide +kernel), List.mem_of_getElem? (i := 346) (by decide +kernel), List.mem_of_getElem? (i := 347) (by decide +kernel)⟩
theorem lw_p8 : lw_okq (⟨"PoemPages$Layout", "lastStanza", "(I)LPoemPages$Stanza;"⟩, 9) := ⟨⟨by decide +kernel, by decide +kernel⟩, List.mem_of_getElem? (i := 84) (by decide +kernel), List.mem_of_getElem? (i := 365) (by decide +kernel), List.mem_of_getElem? (i := 366) (by decide +kernel)⟩
theorem lw_p9 : lw_okq (⟨"PoemPages$Layout", "addSpan", "(LPoemPages$Line;Z)LPoemPages$LineSpan;"⟩, 9) := ⟨⟨by decide +kernel, by decide +kernel⟩, List.mem_of_getElem? (i := 84) (by decide +kernel), List.mem_of_getElem? (i := 373) (by decide +kernel), List.mem_of_getElem? (i := 374) (by decide +kernel)⟩
theorem lw_p10 : lw_okq (⟨"PoemPages$Layout", "addFirstRow", "(LPoemPages$Line;ILPoemPages$LineSpan;LPoemPages$Poem;I)LPoemPages$Row;"⟩, 9) := ⟨⟨by decide +kernel, by decide +kernel⟩, List.mem_of_getElem? (i := 84) (by decide +kernel), List.mem_of_getElem? (i := 411) (by decide +kernel), List.mem_of_getElem? (i := 412) (by decide +kernel)⟩
theorem lw_p11 : lw_okq (⟨"PoemPages$Layout", "widthOf", "(I)I"⟩, 9) := ⟨⟨by decide +kernel, by decide +kernel⟩, List.mem_of_getElem? (i := 84) (by decide +kernel), List.mem_of_getElem? (i := 415) (by decide +kernel), List.mem_of_getElem? (i := 416) (by decide +kernel)⟩
theorem lw_p12 : lw_okq (⟨"PoemPages$Layout", "addRow", "(III)LPoemPages$Row;"⟩, 9) := ⟨⟨by decide +kernel, by decide +kernel⟩, List.mem_of_getElem? (i := 84) (by decide +kernel), List.mem_of_getElem? (i := 431) (by decide +kernel), List.mem_of_getElem? (i := 432) (by decide +kernel)⟩
theorem lw_p13 : lw_okq (⟨"PoemPages$Layout", "putWords", "(LPoemPages$Words;LPoemPages$Row;II)V"⟩, 9) := ⟨⟨by decide +kernel, by decide +kernel⟩, List.mem_of_getElem? (i := 84) (by decide +kernel), List.mem_of_getElem? (i := 479) (by decide +kernel), List.mem_of_getElem? (i := 480) (by decide +kernel)⟩
theorem lw_p14 : lw_okq (⟨"PoemPages$Layout", "putWord", "(ILPoemPages$Row;II)LPoemPages$Row;"⟩, 9) := ⟨⟨by decide +kernel, by decide +kernel⟩, List.mem_of_getElem? (i := 84) (by decide +kernel), List.mem_of_getElem? (i := 488) (by decide +kernel), List.mem_of_getElem? (i := 489) (by decide +kernel)⟩
theorem lw_p15 : lw_okq (⟨"PoemPages$Layout", "passOver", "(LPoemPages$Stanza;II)V"⟩, 9) := ⟨⟨by decide +kernel, by decide +kernel⟩, List.mem_of_getElem? (i := 84) (by decide +kernel), List.mem_of_getElem? (i := 496) (by decide +kernel), List.mem_of_getElem? (i := 497) (by decide +kernel)⟩
def lw_privs_1 : List (MethodName × Nat) := [(⟨"PoemPages$Text", "behindBlanks", "(I)I"⟩, 2), (⟨"PoemPages$Text", "behindLetters", "(I)I"⟩, 2), (⟨"PoemPages$Text", "isBetween", "(IILjava/lang/String;)Z"⟩, 2), (⟨"PoemPages$History", "dropOldest", "()V"⟩, 2), (⟨"PoemPages$History", "stateAt", "(I)LPoemPages$Poem;"⟩, 2), (⟨"PoemPages$Words", "append", "(I)V"⟩, 5), (⟨"PoemPages", "layOut", "()V"⟩, 5), (⟨"PoemPages$Layout", "addStanza", "(I)LPoemPages$Stanza;"⟩, 9), (⟨"PoemPages$Layout", "lastStanza", "(I)LPoemPages$Stanza;"⟩, 9), (⟨"PoemPages$Layout", "addSpan", "(LPoemPages$Line;Z)LPoemPages$LineSpan;"⟩, 9), (⟨"PoemPages$Layout", "addFirstRow", "(LPoemPages$Line;ILPoemPages$LineSpan;LPoemPages$Poem;I)LPoemPages$Row;"⟩, 9), (⟨"PoemPages$Layout", "widthOf", "(I)I"⟩, 9), (⟨"PoemPages$Layout", "addRow", "(III)LPoemPages$Row;"⟩, 9), (⟨"PoemPages$Layout", "putWords", "(LPoemPages$Words;LPoemPages$Row;II)V"⟩, 9), (⟨"PoemPages$Layout", "putWord", "(ILPoemPages$Row;II)LPoemPages$Row;"⟩, 9), (⟨"PoemPages$Layout", "passOver", "(LPoemPages$Stanza;II)V"⟩, 9)]
theorem lw_r1 : ∀ q ∈ lw_privs_1, lw_okq q := List.forall_mem_cons.mpr ⟨lw_p0, List.forall_mem_cons.mpr ⟨lw_p1, List.forall_mem_cons.mpr ⟨lw_p2, List.forall_mem_cons.mpr ⟨lw_p3, List.forall_mem_cons.mpr ⟨lw_p4, List.forall_mem_cons.mpr ⟨lw_p5, List.forall_mem_cons.mpr ⟨lw_p6, List.forall_mem_cons.mpr ⟨lw_p7, List.forall_mem_cons.mpr ⟨lw_p8, List.forall_mem_cons.mpr ⟨lw_p9, List.forall_mem_cons.mpr ⟨lw_p10, List.forall_mem_cons.mpr ⟨lw_p11, List.forall_mem_cons.mpr ⟨lw_p12, List.forall_mem_cons.mpr ⟨lw_p13, List.forall_mem_cons.mpr ⟨lw_p14, List.forall_mem_cons.mpr ⟨lw_p15, fun _ h => absurd h List.not_mem_nil⟩⟩⟩⟩⟩⟩⟩⟩⟩⟩⟩⟩⟩⟩⟩⟩
theorem lw_p16 : lw_okq (⟨"PoemPages$Layout", "closePage", "(I)V"⟩, 9) := ⟨⟨by decide +kernel, by decide +kernel⟩, List.mem_of_getElem? (i := 84) (by decide +kernel), List.mem_of_getElem? (i := 500) (by decide +kernel), List.mem_of_getElem? (i := 501) (by decide +kernel)⟩
theorem lw_p17 : lw_okq (⟨"PoemPages$Layout", "putStanza", "(LPoemPages$Stanza;I)V"⟩, 9) := ⟨⟨by decide +kernel, by decide +kernel⟩, List.mem_of_getElem? (i := 84) (by decide +kernel), List.mem_of_getElem? (i := 504) (by decide +kernel), List.mem_of_getElem? (i := 505) (by decide +kernel)⟩
theorem lw_p18 : lw_okq (⟨"PoemPages$Layout", "putRow", "(LPoemPages$Row;II)V"⟩, 9) := ⟨⟨by decide +kernel, by decide +kernel⟩, List.mem_of_getElem? (i := 84) (by decide +kernel), List.mem_of_getElem? (i := 508) (by decide +kernel), List.mem_of_getElem? (i := 509) (by decide +kernel)⟩
theorem lw_p19 : lw_okq (⟨"PoemPages$Layout", "addPage", "(I)LPoemPages$Page;"⟩, 9) := ⟨⟨by decide +kernel, by decide +kernel⟩, List.mem_of_getElem? (i := 84) (by decide +kernel), List.mem_of_getElem? (i := 516) (by decide +kernel), List.mem_of_getElem? (i := 517) (by decide +kernel)⟩
theorem lw_p20 : lw_okq (⟨"PoemPages$Layout", "beginsWithStanza", "(LPoemPages$Page;)Z"⟩, 9) := ⟨⟨by decide +kernel, by decide +kernel⟩, List.mem_of_getElem? (i := 84) (by decide +kernel), List.mem_of_getElem? (i := 544) (by decide +kernel), List.mem_of_getElem? (i := 545) (by decide +kernel)⟩
theorem lw_p21 : lw_okq (⟨"PoemPages", "byteInRow", "(LPoemPages$Row;I)I"⟩, 5) := ⟨⟨by decide +kernel, by decide +kernel⟩, List.mem_of_getElem? (i := 18) (by decide +kernel), List.mem_of_getElem? (i := 581) (by decide +kernel), List.mem_of_getElem? (i := 582) (by decide +kernel)⟩
theorem lw_p22 : lw_okq (⟨"PoemPages", "countedSetting", "(II)I"⟩, 5) := ⟨⟨by decide +kernel, by decide +kernel⟩, List.mem_of_getElem? (i := 18) (by decide +kernel), List.mem_of_getElem? (i := 640) (by decide +kernel), List.mem_of_getElem? (i := 641) (by decide +kernel)⟩
def lw_privs_2 : List (MethodName × Nat) := [(⟨"PoemPages$Layout", "closePage", "(I)V"⟩, 9), (⟨"PoemPages$Layout", "putStanza", "(LPoemPages$Stanza;I)V"⟩, 9), (⟨"PoemPages$Layout", "putRow", "(LPoemPages$Row;II)V"⟩, 9), (⟨"PoemPages$Layout", "addPage", "(I)LPoemPages$Page;"⟩, 9), (⟨"PoemPages$Layout", "beginsWithStanza", "(LPoemPages$Page;)Z"⟩, 9), (⟨"PoemPages", "byteInRow", "(LPoemPages$Row;I)I"⟩, 5), (⟨"PoemPages", "countedSetting", "(II)I"⟩, 5)]
theorem lw_r2 : ∀ q ∈ lw_privs_2, lw_okq q := List.forall_mem_cons.mpr ⟨lw_p16, List.forall_mem_cons.mpr ⟨lw_p17, List.forall_mem_cons.mpr ⟨lw_p18, List.forall_mem_cons.mpr ⟨lw_p19, List.forall_mem_cons.mpr ⟨lw_p20, List.forall_mem_cons.mpr ⟨lw_p21, List.forall_mem_cons.mpr ⟨lw_p22, fun _ h => absurd h List.not_mem_nil⟩⟩⟩⟩⟩⟩⟩
def lw_privs : List (MethodName × Nat) := lw_privs_1 ++ (lw_privs_2)
def lw_tbl : List Cond := k2_sels lw_privs ++ tables_1
theorem lw_privs_ok : ∀ q ∈ lw_privs, lw_okq q := by
  show ∀ q ∈ lw_privs_1 ++ (lw_privs_2), lw_okq q
  exact List.forall_mem_append.mpr ⟨lw_r1, lw_r2⟩

/-! ===== BEGIN words of one list among another's, by their places ===== -/
theorem goodIn_r {big : List Cond} (ws : List Cond) (ps : List Nat) (hp : ws = ps.filterMap (fun i => big[i]?)) (h : ws.all goodWord = true) : GoodIn big ws := by
  intro w hw
  have h1 := List.all_eq_true.mp h w hw
  rw [hp] at hw
  obtain ⟨i, -, hi⟩ := List.mem_filterMap.mp hw
  have hm : w ∈ big := by first | exact List.mem_of_getElem? hi | exact List.getElem?_mem hi
  exact ⟨hm, good_of_word h1⟩
theorem goodIn_app {big a b : List Cond} (ha : GoodIn big a) (hb : GoodIn big b) : GoodIn big (a ++ b) := fun w h => (List.mem_append.mp h).elim (ha w) (hb w)
theorem goodIn_ca {big a b : List Cond} {c : Cond} (ha : GoodIn big (c :: a)) (hb : GoodIn big b) : GoodIn big (c :: (a ++ b)) := fun w h => (List.mem_cons.mp h).elim (fun e => ha w (List.mem_cons.mpr (Or.inl e))) (fun h => (List.mem_append.mp h).elim (fun h => ha w (List.mem_cons.mpr (Or.inr h))) (hb w))
theorem goodIn_sub {big ws : List Cond} (hm : ∀ w ∈ ws, w ∈ big) (h : ws.all goodWord = true) : GoodIn big ws := fun w hw => ⟨hm w hw, good_of_word (List.all_eq_true.mp h w hw)⟩
/-! ===== END ===== -/

/-! ===== BEGIN printed: names, fields, word lists, decode rows ===== -/
def RX0 : String := "PoemPages$History"
def TX0 : u_T := fun k => match k with
  | 0 => ("PoemPages$History", "states", "[LPoemPages$Poem;", true)
  | _ => ("PoemPages$History", "count", "I", false)
def tyX0 : Nat → FieldType := fun k => match k with
  | 0 => .array (.object "PoemPages$Poem")
  | _ => .int
abbrev wsX00 : List Cond := u_ws RX0 TX0 2
theorem nmX0 : ∀ a, a < 2 → ∀ b, b < 2 → a ≠ b → (TX0 a).2.1 ≠ (TX0 b).2.1 := by decide +kernel
theorem tyX0_ok : ∀ k, k < 2 → parseFieldDescriptor (TX0 k).2.2.1 = some (tyX0 k) := by decide +kernel
abbrev cX0_init : ByteArray := prog_2_method_1_code
def yX0_init : MethodName := ⟨RX0, "<init>", "()V"⟩
abbrev cX0_keepState : ByteArray := prog_2_method_2_code
def yX0_keepState : MethodName := ⟨RX0, "keepState", "(LPoemPages$Poem;)V"⟩
abbrev cX0_dropOldest : ByteArray := prog_2_method_4_code
def yX0_dropOldest : MethodName := ⟨RX0, "dropOldest", "()V"⟩
abbrev cX0_stateAt : ByteArray := prog_2_method_5_code
def yX0_stateAt : MethodName := ⟨RX0, "stateAt", "(I)LPoemPages$Poem;"⟩
def RX1 : String := "PoemPages$Layout"
def TX1 : u_T := fun k => match k with
  | 0 => ("PoemPages$Layout", "rows", "[LPoemPages$Row;", true)
  | 1 => ("PoemPages$Layout", "spans", "[LPoemPages$LineSpan;", true)
  | 2 => ("PoemPages$Layout", "stanzas", "[LPoemPages$Stanza;", true)
  | 3 => ("PoemPages$Layout", "pages", "[LPoemPages$Page;", true)
  | 4 => ("PoemPages$Layout", "rowCount", "I", false)
  | 5 => ("PoemPages$Layout", "stanzaCount", "I", false)
  | 6 => ("PoemPages$Layout", "pageCount", "I", false)
  | 7 => ("PoemPages$Layout", "spanCount", "I", false)
  | _ => ("PoemPages$Layout", "nextPlace", "I", false)
def tyX1 : Nat → FieldType := fun k => match k with
  | 0 => .array (.object "PoemPages$Row")
  | 1 => .array (.object "PoemPages$LineSpan")
  | 2 => .array (.object "PoemPages$Stanza")
  | 3 => .array (.object "PoemPages$Page")
  | 4 => .int
  | 5 => .int
  | 6 => .int
  | 7 => .int
  | _ => .int
abbrev wsX10 : List Cond := u_ws RX1 TX1 9
theorem nmX1 : ∀ a, a < 9 → ∀ b, b < 9 → a ≠ b → (TX1 a).2.1 ≠ (TX1 b).2.1 := by decide +kernel
theorem tyX1_ok : ∀ k, k < 9 → parseFieldDescriptor (TX1 k).2.2.1 = some (tyX1 k) := by decide +kernel
abbrev cX1_init : ByteArray := prog_3_method_1_code
def yX1_init : MethodName := ⟨RX1, "<init>", "()V"⟩
abbrev cX1_rowAt : ByteArray := prog_3_method_2_code
def yX1_rowAt : MethodName := ⟨RX1, "rowAt", "(I)LPoemPages$Row;"⟩
abbrev cX1_spanAt : ByteArray := prog_3_method_3_code
def yX1_spanAt : MethodName := ⟨RX1, "spanAt", "(I)LPoemPages$LineSpan;"⟩
abbrev cX1_stanzaAt : ByteArray := prog_3_method_4_code
def yX1_stanzaAt : MethodName := ⟨RX1, "stanzaAt", "(I)LPoemPages$Stanza;"⟩
abbrev cX1_pageAt : ByteArray := prog_3_method_5_code
def yX1_pageAt : MethodName := ⟨RX1, "pageAt", "(I)LPoemPages$Page;"⟩
abbrev cX1_rowAtPlace : ByteArray := prog_3_method_6_code
def yX1_rowAtPlace : MethodName := ⟨RX1, "rowAtPlace", "(LPoemPages$Page;I)LPoemPages$Row;"⟩
abbrev cX1_runOvers : ByteArray := prog_3_method_7_code
def yX1_runOvers : MethodName := ⟨RX1, "runOvers", "()I"⟩
abbrev cX1_cuts : ByteArray := prog_3_method_8_code
def yX1_cuts : MethodName := ⟨RX1, "cuts", "()I"⟩
abbrev cX1_markedPages : ByteArray := prog_3_method_9_code
def yX1_markedPages : MethodName := ⟨RX1, "markedPages", "()I"⟩
abbrev cX1_lastNumber : ByteArray := prog_3_method_10_code
def yX1_lastNumber : MethodName := ⟨RX1, "lastNumber", "()I"⟩
abbrev cX1_greatestWidth : ByteArray := prog_3_method_11_code
def yX1_greatestWidth : MethodName := ⟨RX1, "greatestWidth", "(II)I"⟩
abbrev cX1_breakLines : ByteArray := prog_3_method_13_code
def yX1_breakLines : MethodName := ⟨RX1, "breakLines", "(LPoemPages$Poem;I)V"⟩
abbrev cX1_putOnPages : ByteArray := prog_3_method_14_code
def yX1_putOnPages : MethodName := ⟨RX1, "putOnPages", "(II)V"⟩
abbrev cX1_addFirstRow : ByteArray := prog_3_method_15_code
def yX1_addFirstRow : MethodName := ⟨RX1, "addFirstRow", "(LPoemPages$Line;ILPoemPages$LineSpan;LPoemPages$Poem;I)LPoemPages$Row;"⟩
abbrev cX1_putWords : ByteArray := prog_3_method_16_code
def yX1_putWords : MethodName := ⟨RX1, "putWords", "(LPoemPages$Words;LPoemPages$Row;II)V"⟩
abbrev cX1_putWord : ByteArray := prog_3_method_17_code
def yX1_putWord : MethodName := ⟨RX1, "putWord", "(ILPoemPages$Row;II)LPoemPages$Row;"⟩
abbrev cX1_passOver : ByteArray := prog_3_method_18_code
def yX1_passOver : MethodName := ⟨RX1, "passOver", "(LPoemPages$Stanza;II)V"⟩
abbrev cX1_putStanza : ByteArray := prog_3_method_19_code
def yX1_putStanza : MethodName := ⟨RX1, "putStanza", "(LPoemPages$Stanza;I)V"⟩
abbrev cX1_putRow : ByteArray := prog_3_method_20_code
def yX1_putRow : MethodName := ⟨RX1, "putRow", "(LPoemPages$Row;II)V"⟩
abbrev cX1_closePage : ByteArray := prog_3_method_21_code
def yX1_closePage : MethodName := ⟨RX1, "closePage", "(I)V"⟩
abbrev cX1_beginsWithStanza : ByteArray := prog_3_method_22_code
def yX1_beginsWithStanza : MethodName := ⟨RX1, "beginsWithStanza", "(LPoemPages$Page;)Z"⟩
abbrev cX1_widthOf : ByteArray := prog_3_method_23_code
def yX1_widthOf : MethodName := ⟨RX1, "widthOf", "(I)I"⟩
abbrev cX1_addRow : ByteArray := prog_3_method_24_code
def yX1_addRow : MethodName := ⟨RX1, "addRow", "(III)LPoemPages$Row;"⟩
abbrev cX1_addSpan : ByteArray := prog_3_method_25_code
def yX1_addSpan : MethodName := ⟨RX1, "addSpan", "(LPoemPages$Line;Z)LPoemPages$LineSpan;"⟩
abbrev cX1_addStanza : ByteArray := prog_3_method_26_code
def yX1_addStanza : MethodName := ⟨RX1, "addStanza", "(I)LPoemPages$Stanza;"⟩
abbrev cX1_lastStanza : ByteArray := prog_3_method_27_code
def yX1_lastStanza : MethodName := ⟨RX1, "lastStanza", "(I)LPoemPages$Stanza;"⟩
abbrev cX1_addPage : ByteArray := prog_3_method_28_code
def yX1_addPage : MethodName := ⟨RX1, "addPage", "(I)LPoemPages$Page;"⟩
def RX2 : String := "PoemPages$Line"
def TX2 : u_T := fun k => match k with
  | 0 => ("PoemPages$Line", "words", "LPoemPages$Words;", true)
  | 1 => ("PoemPages$Line", "steps", "I", true)
  | 2 => ("PoemPages$Line", "half", "Z", true)
  | _ => ("PoemPages$Line", "last", "Z", true)
def tyX2 : Nat → FieldType := fun k => match k with
  | 0 => .object "PoemPages$Words"
  | 1 => .int
  | 2 => .boolean
  | _ => .boolean
abbrev wsX20 : List Cond := u_ws RX2 TX2 4
theorem nmX2 : ∀ a, a < 4 → ∀ b, b < 4 → a ≠ b → (TX2 a).2.1 ≠ (TX2 b).2.1 := by decide +kernel
theorem tyX2_ok : ∀ k, k < 4 → parseFieldDescriptor (TX2 k).2.2.1 = some (tyX2 k) := by decide +kernel
abbrev cX2_init : ByteArray := prog_4_method_1_code
def yX2_init : MethodName := ⟨RX2, "<init>", "(LPoemPages$Words;IZZ)V"⟩
def RX3 : String := "PoemPages$LineSpan"
def TX3 : u_T := fun k => match k with
  | 0 => ("PoemPages$LineSpan", "leans", "Z", false)
  | 1 => ("PoemPages$LineSpan", "number", "I", false)
  | 2 => ("PoemPages$LineSpan", "stanza", "I", false)
  | 3 => ("PoemPages$LineSpan", "firstRow", "I", false)
  | _ => ("PoemPages$LineSpan", "rows", "I", false)
def tyX3 : Nat → FieldType := fun k => match k with
  | 0 => .boolean
  | 1 => .int
  | 2 => .int
  | 3 => .int
  | _ => .int
abbrev wsX30 : List Cond := u_ws RX3 TX3 5
theorem nmX3 : ∀ a, a < 5 → ∀ b, b < 5 → a ≠ b → (TX3 a).2.1 ≠ (TX3 b).2.1 := by decide +kernel
theorem tyX3_ok : ∀ k, k < 5 → parseFieldDescriptor (TX3 k).2.2.1 = some (tyX3 k) := by decide +kernel
abbrev cX3_init : ByteArray := prog_5_method_1_code
def yX3_init : MethodName := ⟨RX3, "<init>", "()V"⟩
def RX4 : String := "PoemPages$Page"
def TX4 : u_T := fun k => match k with
  | 0 => ("PoemPages$Page", "firstRow", "I", false)
  | 1 => ("PoemPages$Page", "rows", "I", false)
  | 2 => ("PoemPages$Page", "places", "I", false)
  | 3 => ("PoemPages$Page", "lines", "I", false)
  | _ => ("PoemPages$Page", "marked", "Z", false)
def tyX4 : Nat → FieldType := fun k => match k with
  | 0 => .int
  | 1 => .int
  | 2 => .int
  | 3 => .int
  | _ => .boolean
abbrev wsX40 : List Cond := u_ws RX4 TX4 5
theorem nmX4 : ∀ a, a < 5 → ∀ b, b < 5 → a ≠ b → (TX4 a).2.1 ≠ (TX4 b).2.1 := by decide +kernel
theorem tyX4_ok : ∀ k, k < 5 → parseFieldDescriptor (TX4 k).2.2.1 = some (tyX4 k) := by decide +kernel
abbrev cX4_init : ByteArray := prog_6_method_1_code
def yX4_init : MethodName := ⟨RX4, "<init>", "()V"⟩
def RX5 : String := "PoemPages$Poem"
def TX5 : u_T := fun k => match k with
  | 0 => ("PoemPages$Poem", "lines", "[LPoemPages$Line;", true)
  | 1 => ("PoemPages$Poem", "settings", "[I", true)
  | _ => ("PoemPages$Poem", "count", "I", false)
def tyX5 : Nat → FieldType := fun k => match k with
  | 0 => .array (.object "PoemPages$Line")
  | 1 => .array .int
  | _ => .int
abbrev wsX50 : List Cond := u_ws RX5 TX5 3
theorem nmX5 : ∀ a, a < 3 → ∀ b, b < 3 → a ≠ b → (TX5 a).2.1 ≠ (TX5 b).2.1 := by decide +kernel
theorem tyX5_ok : ∀ k, k < 3 → parseFieldDescriptor (TX5 k).2.2.1 = some (tyX5 k) := by decide +kernel
abbrev cX5_init : ByteArray := prog_7_method_1_code
def yX5_init : MethodName := ⟨RX5, "<init>", "()V"⟩
abbrev cX5_lineAt : ByteArray := prog_7_method_2_code
def yX5_lineAt : MethodName := ⟨RX5, "lineAt", "(I)LPoemPages$Line;"⟩
abbrev cX5_setting : ByteArray := prog_7_method_3_code
def yX5_setting : MethodName := ⟨RX5, "setting", "(I)I"⟩
abbrev cX5_changeSetting : ByteArray := prog_7_method_4_code
def yX5_changeSetting : MethodName := ⟨RX5, "changeSetting", "(II)V"⟩
abbrev cX5_beginsStanza : ByteArray := prog_7_method_5_code
def yX5_beginsStanza : MethodName := ⟨RX5, "beginsStanza", "(I)Z"⟩
abbrev cX5_exchange : ByteArray := prog_7_method_6_code
def yX5_exchange : MethodName := ⟨RX5, "exchange", "(ILPoemPages$Line;)V"⟩
abbrev cX5_putIn : ByteArray := prog_7_method_7_code
def yX5_putIn : MethodName := ⟨RX5, "putIn", "(ILPoemPages$Line;)V"⟩
abbrev cX5_takeOut : ByteArray := prog_7_method_8_code
def yX5_takeOut : MethodName := ⟨RX5, "takeOut", "(I)V"⟩
abbrev cX5_becomeLike : ByteArray := prog_7_method_10_code
def yX5_becomeLike : MethodName := ⟨RX5, "becomeLike", "(LPoemPages$Poem;)V"⟩
def RX6 : String := "PoemPages$Row"
def TX6 : u_T := fun k => match k with
  | 0 => ("PoemPages$Row", "line", "I", false)
  | 1 => ("PoemPages$Row", "part", "I", false)
  | 2 => ("PoemPages$Row", "page", "I", false)
  | 3 => ("PoemPages$Row", "place", "I", false)
  | 4 => ("PoemPages$Row", "column", "I", false)
  | 5 => ("PoemPages$Row", "from", "I", false)
  | 6 => ("PoemPages$Row", "length", "I", false)
  | 7 => ("PoemPages$Row", "shown", "I", false)
  | _ => ("PoemPages$Row", "withinWord", "Z", false)
def tyX6 : Nat → FieldType := fun k => match k with
  | 0 => .int
  | 1 => .int
  | 2 => .int
  | 3 => .int
  | 4 => .int
  | 5 => .int
  | 6 => .int
  | 7 => .int
  | _ => .boolean
abbrev wsX60 : List Cond := u_ws RX6 TX6 9
theorem nmX6 : ∀ a, a < 9 → ∀ b, b < 9 → a ≠ b → (TX6 a).2.1 ≠ (TX6 b).2.1 := by decide +kernel
theorem tyX6_ok : ∀ k, k < 9 → parseFieldDescriptor (TX6 k).2.2.1 = some (tyX6 k) := by decide +kernel
abbrev cX6_init : ByteArray := prog_8_method_1_code
def yX6_init : MethodName := ⟨RX6, "<init>", "()V"⟩
abbrev cX6_end : ByteArray := prog_8_method_2_code
def yX6_end : MethodName := ⟨RX6, "end", "()I"⟩
def RX7 : String := "PoemPages$Stanza"
def TX7 : u_T := fun k => match k with
  | 0 => ("PoemPages$Stanza", "firstLine", "I", false)
  | 1 => ("PoemPages$Stanza", "firstRow", "I", false)
  | _ => ("PoemPages$Stanza", "rows", "I", false)
def tyX7 : Nat → FieldType := fun k => match k with
  | 0 => .int
  | 1 => .int
  | _ => .int
abbrev wsX70 : List Cond := u_ws RX7 TX7 3
theorem nmX7 : ∀ a, a < 3 → ∀ b, b < 3 → a ≠ b → (TX7 a).2.1 ≠ (TX7 b).2.1 := by decide +kernel
theorem tyX7_ok : ∀ k, k < 3 → parseFieldDescriptor (TX7 k).2.2.1 = some (tyX7 k) := by decide +kernel
abbrev cX7_init : ByteArray := prog_9_method_1_code
def yX7_init : MethodName := ⟨RX7, "<init>", "()V"⟩
def RX8 : String := "PoemPages$Text"
def TX8 : u_T := fun k => match k with
  | 0 => ("PoemPages$Text", "bytes", "[B", true)
  | _ => ("PoemPages$Text", "length", "I", false)
def tyX8 : Nat → FieldType := fun k => match k with
  | 0 => .array .byte
  | _ => .int
abbrev wsX80 : List Cond := u_ws RX8 TX8 2
theorem nmX8 : ∀ a, a < 2 → ∀ b, b < 2 → a ≠ b → (TX8 a).2.1 ≠ (TX8 b).2.1 := by decide +kernel
theorem tyX8_ok : ∀ k, k < 2 → parseFieldDescriptor (TX8 k).2.2.1 = some (tyX8 k) := by decide +kernel
abbrev cX8_init : ByteArray := prog_10_method_1_code
def yX8_init : MethodName := ⟨RX8, "<init>", "()V"⟩
abbrev cX8_append : ByteArray := prog_10_method_2_code
def yX8_append : MethodName := ⟨RX8, "append", "(I)V"⟩
abbrev cX8_byteAt : ByteArray := prog_10_method_3_code
def yX8_byteAt : MethodName := ⟨RX8, "byteAt", "(I)I"⟩
abbrev cX8_lineFault : ByteArray := prog_10_method_4_code
def yX8_lineFault : MethodName := ⟨RX8, "lineFault", "()I"⟩
abbrev cX8_shapeFault : ByteArray := prog_10_method_5_code
def yX8_shapeFault : MethodName := ⟨RX8, "shapeFault", "()I"⟩
abbrev cX8_namedShape : ByteArray := prog_10_method_6_code
def yX8_namedShape : MethodName := ⟨RX8, "namedShape", "()I"⟩
abbrev cX8_toLine : ByteArray := prog_10_method_7_code
def yX8_toLine : MethodName := ⟨RX8, "toLine", "()LPoemPages$Line;"⟩
abbrev cX8_behindBlanks : ByteArray := prog_10_method_8_code
def yX8_behindBlanks : MethodName := ⟨RX8, "behindBlanks", "(I)I"⟩
abbrev cX8_behindLetters : ByteArray := prog_10_method_9_code
def yX8_behindLetters : MethodName := ⟨RX8, "behindLetters", "(I)I"⟩
abbrev cX8_isBetween : ByteArray := prog_10_method_10_code
def yX8_isBetween : MethodName := ⟨RX8, "isBetween", "(IILjava/lang/String;)Z"⟩
def RX9 : String := "PoemPages$Words"
def TX9 : u_T := fun k => match k with
  | 0 => ("PoemPages$Words", "bytes", "[B", true)
  | 1 => ("PoemPages$Words", "lengths", "[I", true)
  | 2 => ("PoemPages$Words", "length", "I", false)
  | 3 => ("PoemPages$Words", "count", "I", false)
  | _ => ("PoemPages$Words", "letters", "I", false)
def tyX9 : Nat → FieldType := fun k => match k with
  | 0 => .array .byte
  | 1 => .array .int
  | 2 => .int
  | 3 => .int
  | _ => .int
abbrev wsX90 : List Cond := u_ws RX9 TX9 5
theorem nmX9 : ∀ a, a < 5 → ∀ b, b < 5 → a ≠ b → (TX9 a).2.1 ≠ (TX9 b).2.1 := by decide +kernel
theorem tyX9_ok : ∀ k, k < 5 → parseFieldDescriptor (TX9 k).2.2.1 = some (tyX9 k) := by decide +kernel
abbrev cX9_init : ByteArray := prog_11_method_1_code
def yX9_init : MethodName := ⟨RX9, "<init>", "()V"⟩
abbrev cX9_add : ByteArray := prog_11_method_2_code
def yX9_add : MethodName := ⟨RX9, "add", "(IZ)V"⟩
abbrev cX9_byteAt : ByteArray := prog_11_method_3_code
def yX9_byteAt : MethodName := ⟨RX9, "byteAt", "(I)I"⟩
abbrev cX9_lengthOf : ByteArray := prog_11_method_4_code
def yX9_lengthOf : MethodName := ⟨RX9, "lengthOf", "(I)I"⟩
abbrev cX9_append : ByteArray := prog_11_method_5_code
def yX9_append : MethodName := ⟨RX9, "append", "(I)V"⟩
def RX10 : String := "PoemPages"
def TX10 : u_T := fun k => match k with
  | 0 => ("PoemPages", "text", "LPoemPages$Text;", true)
  | 1 => ("PoemPages", "poem", "LPoemPages$Poem;", true)
  | 2 => ("PoemPages", "history", "LPoemPages$History;", true)
  | 3 => ("PoemPages", "layout", "LPoemPages$Layout;", true)
  | _ => ("PoemPages", "trial", "LPoemPages$Layout;", true)
def tyX10 : Nat → FieldType := fun k => match k with
  | 0 => .object "PoemPages$Text"
  | 1 => .object "PoemPages$Poem"
  | 2 => .object "PoemPages$History"
  | 3 => .object "PoemPages$Layout"
  | _ => .object "PoemPages$Layout"
abbrev wsX100 : List Cond := u_ws RX10 TX10 5
theorem nmX10 : ∀ a, a < 5 → ∀ b, b < 5 → a ≠ b → (TX10 a).2.1 ≠ (TX10 b).2.1 := by decide +kernel
theorem tyX10_ok : ∀ k, k < 5 → parseFieldDescriptor (TX10 k).2.2.1 = some (tyX10 k) := by decide +kernel
abbrev cX10_init : ByteArray := prog_1_method_1_code
def yX10_init : MethodName := ⟨RX10, "<init>", "()V"⟩
abbrev cX10_type : ByteArray := prog_1_method_2_code
def yX10_type : MethodName := ⟨RX10, "type", "(I)I"⟩
abbrev cX10_clear : ByteArray := prog_1_method_3_code
def yX10_clear : MethodName := ⟨RX10, "clear", "()I"⟩
abbrev cX10_fault : ByteArray := prog_1_method_4_code
def yX10_fault : MethodName := ⟨RX10, "fault", "(Z)I"⟩
abbrev cX10_insert : ByteArray := prog_1_method_5_code
def yX10_insert : MethodName := ⟨RX10, "insert", "(I)I"⟩
abbrev cX10_replace : ByteArray := prog_1_method_6_code
def yX10_replace : MethodName := ⟨RX10, "replace", "(I)I"⟩
abbrev cX10_remove : ByteArray := prog_1_method_7_code
def yX10_remove : MethodName := ⟨RX10, "remove", "(I)I"⟩
abbrev cX10_toggle : ByteArray := prog_1_method_9_code
def yX10_toggle : MethodName := ⟨RX10, "toggle", "(IZ)I"⟩
abbrev cX10_line : ByteArray := prog_1_method_10_code
def yX10_line : MethodName := ⟨RX10, "line", "(II)I"⟩
abbrev cX10_letter : ByteArray := prog_1_method_11_code
def yX10_letter : MethodName := ⟨RX10, "letter", "(II)I"⟩
abbrev cX10_set : ByteArray := prog_1_method_12_code
def yX10_set : MethodName := ⟨RX10, "set", "(II)I"⟩
abbrev cX10_row : ByteArray := prog_1_method_14_code
def yX10_row : MethodName := ⟨RX10, "row", "(II)I"⟩
abbrev cX10_at : ByteArray := prog_1_method_15_code
def yX10_at : MethodName := ⟨RX10, "at", "(III)I"⟩
abbrev cX10_count : ByteArray := prog_1_method_21_code
def yX10_count : MethodName := ⟨RX10, "count", "(I)I"⟩
abbrev cX10_layOut : ByteArray := prog_1_method_23_code
def yX10_layOut : MethodName := ⟨RX10, "layOut", "()V"⟩
abbrev cX10_countedSetting : ByteArray := prog_1_method_25_code
def yX10_countedSetting : MethodName := ⟨RX10, "countedSetting", "(II)I"⟩
abbrev cX10_byteInRow : ByteArray := prog_1_method_26_code
def yX10_byteInRow : MethodName := ⟨RX10, "byteInRow", "(LPoemPages$Row;I)I"⟩
abbrev cX10_oneIf : ByteArray := prog_1_method_32_code
def yX10_oneIf : MethodName := ⟨RX10, "oneIf", "(Z)I"⟩
abbrev cX10_element : ByteArray := prog_1_method_33_code
def yX10_element : MethodName := ⟨RX10, "element", "([II)I"⟩
abbrev cX10_isLetter : ByteArray := prog_1_method_34_code
def yX10_isLetter : MethodName := ⟨RX10, "isLetter", "(I)Z"⟩
abbrev cX10_shapeName : ByteArray := prog_1_method_35_code
def yX10_shapeName : MethodName := ⟨RX10, "shapeName", "(I)Ljava/lang/String;"⟩
def RX11 : String := "PoemPagesModel"
def TX11 : u_T := fun k => match k with
  | _ => ("", "", "", false)
def tyX11 : Nat → FieldType := fun k => match k with
  | _ => .int
abbrev wsX110 : List Cond := u_ws RX11 TX11 0
theorem nmX11 : ∀ a, a < 0 → ∀ b, b < 0 → a ≠ b → (TX11 a).2.1 ≠ (TX11 b).2.1 := by decide +kernel
theorem tyX11_ok : ∀ k, k < 0 → parseFieldDescriptor (TX11 k).2.2.1 = some (tyX11 k) := by decide +kernel
def RJ9 : String := "java/lang/Math"
def TJ9 : u_T := fun k => match k with
  | _ => ("", "", "", false)
def tyJ9 : Nat → FieldType := fun k => match k with
  | _ => .int
abbrev wsJ90 : List Cond := u_ws RJ9 TJ9 0
theorem nmJ9 : ∀ a, a < 0 → ∀ b, b < 0 → a ≠ b → (TJ9 a).2.1 ≠ (TJ9 b).2.1 := by decide +kernel
theorem tyJ9_ok : ∀ k, k < 0 → parseFieldDescriptor (TJ9 k).2.2.1 = some (tyJ9 k) := by decide +kernel
abbrev cJ9_max_7cf53 : ByteArray := prog_14_method_65_code
def yJ9_max_7cf53 : MethodName := ⟨RJ9, "max", "(II)I"⟩
abbrev cJ9_min_7cf53 : ByteArray := prog_14_method_69_code
def yJ9_min_7cf53 : MethodName := ⟨RJ9, "min", "(II)I"⟩
def RJ0 : String := "java/lang/String"
def TJ0 : u_T := fun k => match k with
  | _ => ("", "", "", false)
def tyJ0 : Nat → FieldType := fun k => match k with
  | _ => .int
abbrev wsJ00 : List Cond := u_ws RJ0 TJ0 0
theorem nmJ0 : ∀ a, a < 0 → ∀ b, b < 0 → a ≠ b → (TJ0 a).2.1 ≠ (TJ0 b).2.1 := by decide +kernel
theorem tyJ0_ok : ∀ k, k < 0 → parseFieldDescriptor (TJ0 k).2.2.1 = some (tyJ0 k) := by decide +kernel
abbrev cJ0_length_8abf5 : ByteArray := prog_15_method_54_code
def yJ0_length_8abf5 : MethodName := ⟨RJ0, "length", "()I"⟩
abbrev cJ0_charAt_5068e : ByteArray := prog_15_method_56_code
def yJ0_charAt_5068e : MethodName := ⟨RJ0, "charAt", "(I)C"⟩
abbrev cJ0_coder_7d493 : ByteArray := prog_15_method_152_code
def yJ0_coder_7d493 : MethodName := ⟨RJ0, "coder", "()B"⟩
abbrev cJ0_isLatin1_aae02 : ByteArray := prog_15_method_154_code
def yJ0_isLatin1_aae02 : MethodName := ⟨RJ0, "isLatin1", "()Z"⟩
abbrev cJ0_checkIndex_df160 : ByteArray := prog_15_method_155_code
def yJ0_checkIndex_df160 : MethodName := ⟨RJ0, "checkIndex", "(II)V"⟩
def RJ1 : String := "java/lang/StringLatin1"
def TJ1 : u_T := fun k => match k with
  | _ => ("", "", "", false)
def tyJ1 : Nat → FieldType := fun k => match k with
  | _ => .int
abbrev wsJ10 : List Cond := u_ws RJ1 TJ1 0
theorem nmJ1 : ∀ a, a < 0 → ∀ b, b < 0 → a ≠ b → (TJ1 a).2.1 ≠ (TJ1 b).2.1 := by decide +kernel
theorem tyJ1_ok : ∀ k, k < 0 → parseFieldDescriptor (TJ1 k).2.2.1 = some (tyJ1 k) := by decide +kernel
abbrev cJ1_charAt_3b067 : ByteArray := prog_16_method_2_code
def yJ1_charAt_3b067 : MethodName := ⟨RJ1, "charAt", "([BI)C"⟩
def RJ2 : String := "java/lang/StringUTF16"
def TJ2 : u_T := fun k => match k with
  | _ => ("", "", "", false)
def tyJ2 : Nat → FieldType := fun k => match k with
  | _ => .int
abbrev wsJ20 : List Cond := u_ws RJ2 TJ2 0
theorem nmJ2 : ∀ a, a < 0 → ∀ b, b < 0 → a ≠ b → (TJ2 a).2.1 ≠ (TJ2 b).2.1 := by decide +kernel
theorem tyJ2_ok : ∀ k, k < 0 → parseFieldDescriptor (TJ2 k).2.2.1 = some (tyJ2 k) := by decide +kernel
abbrev cJ2_getChar_3b067 : ByteArray := prog_17_method_5_code
def yJ2_getChar_3b067 : MethodName := ⟨RJ2, "getChar", "([BI)C"⟩
abbrev cJ2_length_9d52b : ByteArray := prog_17_method_6_code
def yJ2_length_9d52b : MethodName := ⟨RJ2, "length", "([B)I"⟩
abbrev cJ2_charAt_3b067 : ByteArray := prog_17_method_83_code
def yJ2_charAt_3b067 : MethodName := ⟨RJ2, "charAt", "([BI)C"⟩
abbrev cJ2_checkIndex_2214a : ByteArray := prog_17_method_91_code
def yJ2_checkIndex_2214a : MethodName := ⟨RJ2, "checkIndex", "(I[B)V"⟩
def RJ3 : String := "jdk/internal/util/Preconditions"
def TJ3 : u_T := fun k => match k with
  | _ => ("", "", "", false)
def tyJ3 : Nat → FieldType := fun k => match k with
  | _ => .int
abbrev wsJ30 : List Cond := u_ws RJ3 TJ3 0
theorem nmJ3 : ∀ a, a < 0 → ∀ b, b < 0 → a ≠ b → (TJ3 a).2.1 ≠ (TJ3 b).2.1 := by decide +kernel
theorem tyJ3_ok : ∀ k, k < 0 → parseFieldDescriptor (TJ3 k).2.2.1 = some (tyJ3 k) := by decide +kernel
abbrev cJ3_checkIndex_8e157 : ByteArray := prog_18_method_11_code
def yJ3_checkIndex_8e157 : MethodName := ⟨RJ3, "checkIndex", "(IILjava/util/function/BiFunction;)I"⟩
def RL : String := "PoemPagesLaw"
abbrev cL_cell : ByteArray := method_2_code
def yL_cell : MethodName := ⟨RL, "cell", "([II)I"⟩
abbrev cL_low : ByteArray := method_3_code
def yL_low : MethodName := ⟨RL, "low", "(II)I"⟩
abbrev cL_begins : ByteArray := method_4_code
def yL_begins : MethodName := ⟨RL, "begins", "([I)V"⟩
abbrev cL_types : ByteArray := method_5_code
def yL_types : MethodName := ⟨RL, "types", "(LPoemPages;[IIII)Z"⟩
abbrev cL_inserts : ByteArray := method_6_code
def yL_inserts : MethodName := ⟨RL, "inserts", "(LPoemPages;[IIII)Z"⟩
abbrev cL_sets : ByteArray := method_7_code
def yL_sets : MethodName := ⟨RL, "sets", "(LPoemPages;[II)Z"⟩
abbrev cL_isFirst : ByteArray := method_8_code
def yL_isFirst : MethodName := ⟨RL, "isFirst", "([II)Z"⟩
abbrev cL_comes : ByteArray := method_9_code
def yL_comes : MethodName := ⟨RL, "comes", "([I[IIIIII)V"⟩
abbrev cL_first : ByteArray := method_10_code
def yL_first : MethodName := ⟨RL, "first", "(I)I"⟩
abbrev cL_length : ByteArray := method_11_code
def yL_length : MethodName := ⟨RL, "length", "(I)I"⟩
abbrev cL_breaks : ByteArray := method_12_code
def yL_breaks : MethodName := ⟨RL, "breaks", "([I[I[I)V"⟩
abbrev cL_areLines : ByteArray := method_13_code
def yL_areLines : MethodName := ⟨RL, "areLines", "(LPoemPages;[I[I)Z"⟩
abbrev cL_areRows : ByteArray := method_14_code
def yL_areRows : MethodName := ⟨RL, "areRows", "(LPoemPages;[I[I[I)Z"⟩
abbrev cL_law : ByteArray := code
def yL_law : MethodName := ⟨RL, "law", "([I)Z"⟩
theorem inJ9 : ∀ w ∈ wsJ90, w ∈ lw_tbl := by decide +kernel
theorem inJ0 : ∀ w ∈ wsJ00, w ∈ lw_tbl := by decide +kernel
theorem inJ1 : ∀ w ∈ wsJ10, w ∈ lw_tbl := by decide +kernel
theorem inJ2 : ∀ w ∈ wsJ20, w ∈ lw_tbl := by decide +kernel
theorem inJ3 : ∀ w ∈ wsJ30, w ∈ lw_tbl := by decide +kernel
abbrev vwCl : List vw_C := [(RX0, TX0, 2), (RX1, TX1, 9), (RX2, TX2, 4), (RX3, TX3, 5), (RX4, TX4, 5), (RX5, TX5, 3), (RX6, TX6, 9), (RX7, TX7, 3), (RX8, TX8, 2), (RX9, TX9, 5), (RX10, TX10, 5)]
/-! ===== END printed: names ===== -/



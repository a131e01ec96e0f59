section
-- ===== PART A: goes FIRST, ahead of the names: the tables' words, and 'selects' of the private methods out of them =====
/-- a private method of a class that the tables say can be made, by its rows of tables_1 -/
def lw_okq (q : MethodName × Nat) : Prop := (q.1.cls ≠ "java/lang/invoke/MethodHandle" ∧ q.1.cls ≠ "java/lang/invoke/VarHandle") ∧ Cond.instantiable q.1.cls q.2 ∈ tables_1 ∧ Cond.privateMethod q.1 ∈ tables_1 ∧ Cond.instanceMethod q.1 ∈ tables_1
theorem lw_p0 : lw_okq (⟨"PoemPages$Text", "behindBlanks", "(I)I"⟩, 2) := ⟨⟨by decide +kernel, by decide +kernel⟩, List.mem_of_getElem? (i := 27) (by decide +kernel), List.mem_of_getElem? (i := 170) (by decide +kernel), List.mem_of_getElem? (i := 171) (by decide +kernel)⟩
theorem lw_p1 : lw_okq (⟨"PoemPages$Text", "behindLetters", "(I)I"⟩, 2) := ⟨⟨by decide +kernel, by decide +kernel⟩, List.mem_of_getElem? (i := 27) (by decide +kernel), List.mem_of_getElem? (i := 178) (by decide +kernel), List.mem_of_getElem? (i := 179) (by decide +kernel)⟩
theorem lw_p2 : lw_okq (⟨"PoemPages$Text", "isBetween", "(IILjava/lang/String;)Z"⟩, 2) := ⟨⟨by decide +kernel, by decide +kernel⟩, List.mem_of_getElem? (i := 27) (by decide +kernel), List.mem_of_getElem? (i := 193) (by decide +kernel), List.mem_of_getElem? (i := 194) (by decide +kernel)⟩
theorem lw_p3 : lw_okq (⟨"PoemPages$History", "dropOldest", "()V"⟩, 2) := ⟨⟨by decide +kernel, by decide +kernel⟩, List.mem_of_getElem? (i := 68) (by decide +kernel), List.mem_of_getElem? (i := 257) (by decide +kernel), List.mem_of_getElem? (i := 258) (by decide +kernel)⟩
theorem lw_p4 : lw_okq (⟨"PoemPages$History", "stateAt", "(I)LPoemPages$Poem;"⟩, 2) := ⟨⟨by decide +kernel, by decide +kernel⟩, List.mem_of_getElem? (i := 68) (by decide +kernel), List.mem_of_getElem? (i := 261) (by decide +kernel), List.mem_of_getElem? (i := 262) (by decide +kernel)⟩
theorem lw_p5 : lw_okq (⟨"PoemPages$Words", "append", "(I)V"⟩, 5) := ⟨⟨by decide +kernel, by decide +kernel⟩, List.mem_of_getElem? (i := 281) (by decide +kernel), List.mem_of_getElem? (i := 310) (by decide +kernel), List.mem_of_getElem? (i := 311) (by decide +kernel)⟩
theorem lw_p6 : lw_okq (⟨"PoemPages", "layOut", "()V"⟩, 5) := ⟨⟨by decide +kernel, by decide +kernel⟩, List.mem_of_getElem? (i := 19) (by decide +kernel), List.mem_of_getElem? (i := 345) (by decide +kernel), List.mem_of_getElem? (i := 346) (by decide +kernel)⟩
theorem lw_p7 : lw_okq (⟨"PoemPages$Layout", "addStanza", "(I)LPoemPages$Stanza;"⟩, 9) := ⟨⟨by decide +kernel, by decide +kernel⟩, List.mem_of_getElem? (i := 85) (by decide +kernel), List.mem_of_getElem? (i := 359) (by decide +kernel), List.mem_of_getElem? (i := 360) (by decide +kernel)⟩
theorem lw_p8 : lw_okq (⟨"PoemPages$Layout", "lastStanza", "(I)LPoemPages$Stanza;"⟩, 9) := ⟨⟨by decide +kernel, by decide +kernel⟩, List.mem_of_getElem? (i := 85) (by decide +kernel), List.mem_of_getElem? (i := 378) (by decide +kernel), List.mem_of_getElem? (i := 379) (by decide +kernel)⟩
theorem lw_p9 : lw_okq (⟨"PoemPages$Layout", "addSpan", "(LPoemPages$Line;Z)LPoemPages$LineSpan;"⟩, 9) := ⟨⟨by decide +kernel, by decide +kernel⟩, List.mem_of_getElem? (i := 85) (by decide +kernel), List.mem_of_getElem? (i := 386) (by decide +kernel), List.mem_of_getElem? (i := 387) (by decide +kernel)⟩
theorem lw_p10 : lw_okq (⟨"PoemPages$Layout", "addFirstRow", "(LPoemPages$Line;ILPoemPages$LineSpan;LPoemPages$Poem;I)LPoemPages$Row;"⟩, 9) := ⟨⟨by decide +kernel, by decide +kernel⟩, List.mem_of_getElem? (i := 85) (by decide +kernel), List.mem_of_getElem? (i := 424) (by decide +kernel), List.mem_of_getElem? (i := 425) (by decide +kernel)⟩
theorem lw_p11 : lw_okq (⟨"PoemPages$Layout", "widthOf", "(I)I"⟩, 9) := ⟨⟨by decide +kernel, by decide +kernel⟩, List.mem_of_getElem? (i := 85) (by decide +kernel), List.mem_of_getElem? (i := 428) (by decide +kernel), List.mem_of_getElem? (i := 429) (by decide +kernel)⟩
theorem lw_p12 : lw_okq (⟨"PoemPages$Layout", "addRow", "(III)LPoemPages$Row;"⟩, 9) := ⟨⟨by decide +kernel, by decide +kernel⟩, List.mem_of_getElem? (i := 85) (by decide +kernel), List.mem_of_getElem? (i := 444) (by decide +kernel), List.mem_of_getElem? (i := 445) (by decide +kernel)⟩
theorem lw_p13 : lw_okq (⟨"PoemPages$Layout", "putWords", "(LPoemPages$Words;LPoemPages$Row;II)V"⟩, 9) := ⟨⟨by decide +kernel, by decide +kernel⟩, List.mem_of_getElem? (i := 85) (by decide +kernel), List.mem_of_getElem? (i := 492) (by decide +kernel), List.mem_of_getElem? (i := 493) (by decide +kernel)⟩
theorem lw_p14 : lw_okq (⟨"PoemPages$Layout", "putWord", "(ILPoemPages$Row;II)LPoemPages$Row;"⟩, 9) := ⟨⟨by decide +kernel, by decide +kernel⟩, List.mem_of_getElem? (i := 85) (by decide +kernel), List.mem_of_getElem? (i := 501) (by decide +kernel), List.mem_of_getElem? (i := 502) (by decide +kernel)⟩
theorem lw_p15 : lw_okq (⟨"PoemPages$Layout", "passOver", "(LPoemPages$Stanza;II)V"⟩, 9) := ⟨⟨by decide +kernel, by decide +kernel⟩, List.mem_of_getElem? (i := 85) (by decide +kernel), List.mem_of_getElem? (i := 509) (by decide +kernel), List.mem_of_getElem? (i := 510) (by decide +kernel)⟩
def lw_privs_1 : List (MethodName × Nat) := [(⟨"PoemPages$Text", "behindBlanks", "(I)I"⟩, 2), (⟨"PoemPages$Text", "behindLetters", "(I)I"⟩, 2), (⟨"PoemPages$Text", "isBetween", "(IILjava/lang/String;)Z"⟩, 2), (⟨"PoemPages$History", "dropOldest", "()V"⟩, 2), (⟨"PoemPages$History", "stateAt", "(I)LPoemPages$Poem;"⟩, 2), (⟨"PoemPages$Words", "append", "(I)V"⟩, 5), (⟨"PoemPages", "layOut", "()V"⟩, 5), (⟨"PoemPages$Layout", "addStanza", "(I)LPoemPages$Stanza;"⟩, 9), (⟨"PoemPages$Layout", "lastStanza", "(I)LPoemPages$Stanza;"⟩, 9), (⟨"PoemPages$Layout", "addSpan", "(LPoemPages$Line;Z)LPoemPages$LineSpan;"⟩, 9), (⟨"PoemPages$Layout", "addFirstRow", "(LPoemPages$Line;ILPoemPages$LineSpan;LPoemPages$Poem;I)LPoemPages$Row;"⟩, 9), (⟨"PoemPages$Layout", "widthOf", "(I)I"⟩, 9), (⟨"PoemPages$Layout", "addRow", "(III)LPoemPages$Row;"⟩, 9), (⟨"PoemPages$Layout", "putWords", "(LPoemPages$Words;LPoemPages$Row;II)V"⟩, 9), (⟨"PoemPages$Layout", "putWord", "(ILPoemPages$Row;II)LPoemPages$Row;"⟩, 9), (⟨"PoemPages$Layout", "passOver", "(LPoemPages$Stanza;II)V"⟩, 9)]
theorem lw_r1 : ∀ q ∈ lw_privs_1, lw_okq q := List.forall_mem_cons.mpr ⟨lw_p0, List.forall_mem_cons.mpr ⟨lw_p1, List.forall_mem_cons.mpr ⟨lw_p2, List.forall_mem_cons.mpr ⟨lw_p3, List.forall_mem_cons.mpr ⟨lw_p4, List.forall_mem_cons.mpr ⟨lw_p5, List.forall_mem_cons.mpr ⟨lw_p6, List.forall_mem_cons.mpr ⟨lw_p7, List.forall_mem_cons.mpr ⟨lw_p8, List.forall_mem_cons.mpr ⟨lw_p9, List.forall_mem_cons.mpr ⟨lw_p10, List.forall_mem_cons.mpr ⟨lw_p11, List.forall_mem_cons.mpr ⟨lw_p12, List.forall_mem_cons.mpr ⟨lw_p13, List.forall_mem_cons.mpr ⟨lw_p14, List.forall_mem_cons.mpr ⟨lw_p15, fun _ h => absurd h List.not_mem_nil⟩⟩⟩⟩⟩⟩⟩⟩⟩⟩⟩⟩⟩⟩⟩⟩
theorem lw_p16 : lw_okq (⟨"PoemPages$Layout", "closePage", "(I)V"⟩, 9) := ⟨⟨by decide +kernel, by decide +kernel⟩, List.mem_of_getElem? (i := 85) (by decide +kernel), List.mem_of_getElem? (i := 513) (by decide +kernel), List.mem_of_getElem? (i := 514) (by decide +kernel)⟩
theorem lw_p17 : lw_okq (⟨"PoemPages$Layout", "putStanza", "(LPoemPages$Stanza;I)V"⟩, 9) := ⟨⟨by decide +kernel, by decide +kernel⟩, List.mem_of_getElem? (i := 85) (by decide +kernel), List.mem_of_getElem? (i := 517) (by decide +kernel), List.mem_of_getElem? (i := 518) (by decide +kernel)⟩
theorem lw_p18 : lw_okq (⟨"PoemPages$Layout", "putRow", "(LPoemPages$Row;II)V"⟩, 9) := ⟨⟨by decide +kernel, by decide +kernel⟩, List.mem_of_getElem? (i := 85) (by decide +kernel), List.mem_of_getElem? (i := 521) (by decide +kernel), List.mem_of_getElem? (i := 522) (by decide +kernel)⟩
theorem lw_p19 : lw_okq (⟨"PoemPages$Layout", "addPage", "(I)LPoemPages$Page;"⟩, 9) := ⟨⟨by decide +kernel, by decide +kernel⟩, List.mem_of_getElem? (i := 85) (by decide +kernel), List.mem_of_getElem? (i := 529) (by decide +kernel), List.mem_of_getElem? (i := 530) (by decide +kernel)⟩
theorem lw_p20 : lw_okq (⟨"PoemPages$Layout", "beginsWithStanza", "(LPoemPages$Page;)Z"⟩, 9) := ⟨⟨by decide +kernel, by decide +kernel⟩, List.mem_of_getElem? (i := 85) (by decide +kernel), List.mem_of_getElem? (i := 562) (by decide +kernel), List.mem_of_getElem? (i := 563) (by decide +kernel)⟩
theorem lw_p21 : lw_okq (⟨"PoemPages$Poem", "moveLine", "(II)V"⟩, 3) := ⟨⟨by decide +kernel, by decide +kernel⟩, List.mem_of_getElem? (i := 42) (by decide +kernel), List.mem_of_getElem? (i := 591) (by decide +kernel), List.mem_of_getElem? (i := 592) (by decide +kernel)⟩
theorem lw_p22 : lw_okq (⟨"PoemPages", "byteInRow", "(LPoemPages$Row;I)I"⟩, 5) := ⟨⟨by decide +kernel, by decide +kernel⟩, List.mem_of_getElem? (i := 19) (by decide +kernel), List.mem_of_getElem? (i := 653) (by decide +kernel), List.mem_of_getElem? (i := 654) (by decide +kernel)⟩
theorem lw_p23 : lw_okq (⟨"PoemPages", "numberWithWidth", "(II)I"⟩, 5) := ⟨⟨by decide +kernel, by decide +kernel⟩, List.mem_of_getElem? (i := 19) (by decide +kernel), List.mem_of_getElem? (i := 694) (by decide +kernel), List.mem_of_getElem? (i := 695) (by decide +kernel)⟩
theorem lw_p24 : lw_okq (⟨"PoemPages", "countedSetting", "(II)I"⟩, 5) := ⟨⟨by decide +kernel, by decide +kernel⟩, List.mem_of_getElem? (i := 19) (by decide +kernel), List.mem_of_getElem? (i := 720) (by decide +kernel), List.mem_of_getElem? (i := 721) (by decide +kernel)⟩
theorem lw_p25 : lw_okq (⟨"PoemPages", "withLines", "(J)J"⟩, 5) := ⟨⟨by decide +kernel, by decide +kernel⟩, List.mem_of_getElem? (i := 19) (by decide +kernel), List.mem_of_getElem? (i := 734) (by decide +kernel), List.mem_of_getElem? (i := 735) (by decide +kernel)⟩
theorem lw_p26 : lw_okq (⟨"PoemPages", "withRows", "(J)J"⟩, 5) := ⟨⟨by decide +kernel, by decide +kernel⟩, List.mem_of_getElem? (i := 19) (by decide +kernel), List.mem_of_getElem? (i := 739) (by decide +kernel), List.mem_of_getElem? (i := 740) (by decide +kernel)⟩
theorem lw_p27 : lw_okq (⟨"PoemPages", "withPages", "(J)J"⟩, 5) := ⟨⟨by decide +kernel, by decide +kernel⟩, List.mem_of_getElem? (i := 19) (by decide +kernel), List.mem_of_getElem? (i := 744) (by decide +kernel), List.mem_of_getElem? (i := 745) (by decide +kernel)⟩
theorem lw_p28 : lw_okq (⟨"PoemPages", "withPlaces", "(J)J"⟩, 5) := ⟨⟨by decide +kernel, by decide +kernel⟩, List.mem_of_getElem? (i := 19) (by decide +kernel), List.mem_of_getElem? (i := 749) (by decide +kernel), List.mem_of_getElem? (i := 750) (by decide +kernel)⟩
theorem lw_p29 : lw_okq (⟨"PoemPagesModel", "readsShape", "()V"⟩, 26) := ⟨⟨by decide +kernel, by decide +kernel⟩, List.mem_of_getElem? (i := 755) (by decide +kernel), List.mem_of_getElem? (i := 859) (by decide +kernel), List.mem_of_getElem? (i := 860) (by decide +kernel)⟩
theorem lw_p30 : lw_okq (⟨"PoemPagesModel", "skips", "()V"⟩, 26) := ⟨⟨by decide +kernel, by decide +kernel⟩, List.mem_of_getElem? (i := 755) (by decide +kernel), List.mem_of_getElem? (i := 863) (by decide +kernel), List.mem_of_getElem? (i := 864) (by decide +kernel)⟩
theorem lw_p31 : lw_okq (⟨"PoemPagesModel", "next", "()I"⟩, 26) := ⟨⟨by decide +kernel, by decide +kernel⟩, List.mem_of_getElem? (i := 755) (by decide +kernel), List.mem_of_getElem? (i := 867) (by decide +kernel), List.mem_of_getElem? (i := 868) (by decide +kernel)⟩
def lw_privs_2 : List (MethodName × Nat) := [(⟨"PoemPages$Layout", "closePage", "(I)V"⟩, 9), (⟨"PoemPages$Layout", "putStanza", "(LPoemPages$Stanza;I)V"⟩, 9), (⟨"PoemPages$Layout", "putRow", "(LPoemPages$Row;II)V"⟩, 9), (⟨"PoemPages$Layout", "addPage", "(I)LPoemPages$Page;"⟩, 9), (⟨"PoemPages$Layout", "beginsWithStanza", "(LPoemPages$Page;)Z"⟩, 9), (⟨"PoemPages$Poem", "moveLine", "(II)V"⟩, 3), (⟨"PoemPages", "byteInRow", "(LPoemPages$Row;I)I"⟩, 5), (⟨"PoemPages", "numberWithWidth", "(II)I"⟩, 5), (⟨"PoemPages", "countedSetting", "(II)I"⟩, 5), (⟨"PoemPages", "withLines", "(J)J"⟩, 5), (⟨"PoemPages", "withRows", "(J)J"⟩, 5), (⟨"PoemPages", "withPages", "(J)J"⟩, 5), (⟨"PoemPages", "withPlaces", "(J)J"⟩, 5), (⟨"PoemPagesModel", "readsShape", "()V"⟩, 26), (⟨"PoemPagesModel", "skips", "()V"⟩, 26), (⟨"PoemPagesModel", "next", "()I"⟩, 26)]
theorem lw_r2 : ∀ q ∈ lw_privs_2, lw_okq q := List.forall_mem_cons.mpr ⟨lw_p16, List.forall_mem_cons.mpr ⟨lw_p17, List.forall_mem_cons.mpr ⟨lw_p18, List.forall_mem_cons.mpr ⟨lw_p19, List.forall_mem_cons.mpr ⟨lw_p20, List.forall_mem_cons.mpr ⟨lw_p21, List.forall_mem_cons.mpr ⟨lw_p22, List.forall_mem_cons.mpr ⟨lw_p23, List.forall_mem_cons.mpr ⟨lw_p24, List.forall_mem_cons.mpr ⟨lw_p25, List.forall_mem_cons.mpr ⟨lw_p26, List.forall_mem_cons.mpr ⟨lw_p27, List.forall_mem_cons.mpr ⟨lw_p28, List.forall_mem_cons.mpr ⟨lw_p29, List.forall_mem_cons.mpr ⟨lw_p30, List.forall_mem_cons.mpr ⟨lw_p31, fun _ h => absurd h List.not_mem_nil⟩⟩⟩⟩⟩⟩⟩⟩⟩⟩⟩⟩⟩⟩⟩⟩
theorem lw_p32 : lw_okq (⟨"PoemPagesModel", "isLetter", "()Z"⟩, 26) := ⟨⟨by decide +kernel, by decide +kernel⟩, List.mem_of_getElem? (i := 755) (by decide +kernel), List.mem_of_getElem? (i := 871) (by decide +kernel), List.mem_of_getElem? (i := 872) (by decide +kernel)⟩
theorem lw_p33 : lw_okq (⟨"PoemPagesModel", "isName", "(IJI)Z"⟩, 26) := ⟨⟨by decide +kernel, by decide +kernel⟩, List.mem_of_getElem? (i := 755) (by decide +kernel), List.mem_of_getElem? (i := 876) (by decide +kernel), List.mem_of_getElem? (i := 877) (by decide +kernel)⟩
theorem lw_p34 : lw_okq (⟨"PoemPagesModel", "readsLine", "()V"⟩, 26) := ⟨⟨by decide +kernel, by decide +kernel⟩, List.mem_of_getElem? (i := 755) (by decide +kernel), List.mem_of_getElem? (i := 884) (by decide +kernel), List.mem_of_getElem? (i := 885) (by decide +kernel)⟩
theorem lw_p35 : lw_okq (⟨"PoemPagesModel", "takes", "(I)Z"⟩, 26) := ⟨⟨by decide +kernel, by decide +kernel⟩, List.mem_of_getElem? (i := 755) (by decide +kernel), List.mem_of_getElem? (i := 888) (by decide +kernel), List.mem_of_getElem? (i := 889) (by decide +kernel)⟩
theorem lw_p36 : lw_okq (⟨"PoemPagesModel", "readsWord", "()V"⟩, 26) := ⟨⟨by decide +kernel, by decide +kernel⟩, List.mem_of_getElem? (i := 755) (by decide +kernel), List.mem_of_getElem? (i := 892) (by decide +kernel), List.mem_of_getElem? (i := 893) (by decide +kernel)⟩
theorem lw_p37 : lw_okq (⟨"PoemPagesModel", "keeps", "()V"⟩, 26) := ⟨⟨by decide +kernel, by decide +kernel⟩, List.mem_of_getElem? (i := 755) (by decide +kernel), List.mem_of_getElem? (i := 900) (by decide +kernel), List.mem_of_getElem? (i := 901) (by decide +kernel)⟩
theorem lw_p38 : lw_okq (⟨"PoemPagesModel", "copies", "(II)V"⟩, 26) := ⟨⟨by decide +kernel, by decide +kernel⟩, List.mem_of_getElem? (i := 755) (by decide +kernel), List.mem_of_getElem? (i := 904) (by decide +kernel), List.mem_of_getElem? (i := 905) (by decide +kernel)⟩
theorem lw_p39 : lw_okq (⟨"PoemPagesModel", "lays", "(I)V"⟩, 26) := ⟨⟨by decide +kernel, by decide +kernel⟩, List.mem_of_getElem? (i := 755) (by decide +kernel), List.mem_of_getElem? (i := 908) (by decide +kernel), List.mem_of_getElem? (i := 909) (by decide +kernel)⟩
theorem lw_p40 : lw_okq (⟨"PoemPagesModel", "isLine", "(I)Z"⟩, 26) := ⟨⟨by decide +kernel, by decide +kernel⟩, List.mem_of_getElem? (i := 755) (by decide +kernel), List.mem_of_getElem? (i := 916) (by decide +kernel), List.mem_of_getElem? (i := 917) (by decide +kernel)⟩
theorem lw_p41 : lw_okq (⟨"PoemPagesModel", "of", "(II)I"⟩, 26) := ⟨⟨by decide +kernel, by decide +kernel⟩, List.mem_of_getElem? (i := 755) (by decide +kernel), List.mem_of_getElem? (i := 920) (by decide +kernel), List.mem_of_getElem? (i := 921) (by decide +kernel)⟩
theorem lw_p42 : lw_okq (⟨"PoemPagesModel", "drops", "(I)V"⟩, 26) := ⟨⟨by decide +kernel, by decide +kernel⟩, List.mem_of_getElem? (i := 755) (by decide +kernel), List.mem_of_getElem? (i := 928) (by decide +kernel), List.mem_of_getElem? (i := 929) (by decide +kernel)⟩
theorem lw_p43 : lw_okq (⟨"PoemPagesModel", "stanzas", "()I"⟩, 26) := ⟨⟨by decide +kernel, by decide +kernel⟩, List.mem_of_getElem? (i := 755) (by decide +kernel), List.mem_of_getElem? (i := 936) (by decide +kernel), List.mem_of_getElem? (i := 937) (by decide +kernel)⟩
theorem lw_p44 : lw_okq (⟨"PoemPagesModel", "stanzaOf", "(I)I"⟩, 26) := ⟨⟨by decide +kernel, by decide +kernel⟩, List.mem_of_getElem? (i := 755) (by decide +kernel), List.mem_of_getElem? (i := 940) (by decide +kernel), List.mem_of_getElem? (i := 941) (by decide +kernel)⟩
theorem lw_p45 : lw_okq (⟨"PoemPagesModel", "beginsStanza", "(I)Z"⟩, 26) := ⟨⟨by decide +kernel, by decide +kernel⟩, List.mem_of_getElem? (i := 755) (by decide +kernel), List.mem_of_getElem? (i := 944) (by decide +kernel), List.mem_of_getElem? (i := 945) (by decide +kernel)⟩
theorem lw_p46 : lw_okq (⟨"PoemPagesModel", "draws", "()V"⟩, 26) := ⟨⟨by decide +kernel, by decide +kernel⟩, List.mem_of_getElem? (i := 755) (by decide +kernel), List.mem_of_getElem? (i := 956) (by decide +kernel), List.mem_of_getElem? (i := 957) (by decide +kernel)⟩
theorem lw_p47 : lw_okq (⟨"PoemPagesModel", "laysRows", "(I)V"⟩, 26) := ⟨⟨by decide +kernel, by decide +kernel⟩, List.mem_of_getElem? (i := 755) (by decide +kernel), List.mem_of_getElem? (i := 960) (by decide +kernel), List.mem_of_getElem? (i := 961) (by decide +kernel)⟩
def lw_privs_3 : List (MethodName × Nat) := [(⟨"PoemPagesModel", "isLetter", "()Z"⟩, 26), (⟨"PoemPagesModel", "isName", "(IJI)Z"⟩, 26), (⟨"PoemPagesModel", "readsLine", "()V"⟩, 26), (⟨"PoemPagesModel", "takes", "(I)Z"⟩, 26), (⟨"PoemPagesModel", "readsWord", "()V"⟩, 26), (⟨"PoemPagesModel", "keeps", "()V"⟩, 26), (⟨"PoemPagesModel", "copies", "(II)V"⟩, 26), (⟨"PoemPagesModel", "lays", "(I)V"⟩, 26), (⟨"PoemPagesModel", "isLine", "(I)Z"⟩, 26), (⟨"PoemPagesModel", "of", "(II)I"⟩, 26), (⟨"PoemPagesModel", "drops", "(I)V"⟩, 26), (⟨"PoemPagesModel", "stanzas", "()I"⟩, 26), (⟨"PoemPagesModel", "stanzaOf", "(I)I"⟩, 26), (⟨"PoemPagesModel", "beginsStanza", "(I)Z"⟩, 26), (⟨"PoemPagesModel", "draws", "()V"⟩, 26), (⟨"PoemPagesModel", "laysRows", "(I)V"⟩, 26)]
theorem lw_r3 : ∀ q ∈ lw_privs_3, lw_okq q := List.forall_mem_cons.mpr ⟨lw_p32, List.forall_mem_cons.mpr ⟨lw_p33, List.forall_mem_cons.mpr ⟨lw_p34, List.forall_mem_cons.mpr ⟨lw_p35, List.forall_mem_cons.mpr ⟨lw_p36, List.forall_mem_cons.mpr ⟨lw_p37, List.forall_mem_cons.mpr ⟨lw_p38, List.forall_mem_cons.mpr ⟨lw_p39, List.forall_mem_cons.mpr ⟨lw_p40, List.forall_mem_cons.mpr ⟨lw_p41, List.forall_mem_cons.mpr ⟨lw_p42, List.forall_mem_cons.mpr ⟨lw_p43, List.forall_mem_cons.mpr ⟨lw_p44, List.forall_mem_cons.mpr ⟨lw_p45, List.forall_mem_cons.mpr ⟨lw_p46, List.forall_mem_cons.mpr ⟨lw_p47, fun _ h => absurd h List.not_mem_nil⟩⟩⟩⟩⟩⟩⟩⟩⟩⟩⟩⟩⟩⟩⟩⟩
theorem lw_p48 : lw_okq (⟨"PoemPagesModel", "leans", "(I)Z"⟩, 26) := ⟨⟨by decide +kernel, by decide +kernel⟩, List.mem_of_getElem? (i := 755) (by decide +kernel), List.mem_of_getElem? (i := 964) (by decide +kernel), List.mem_of_getElem? (i := 965) (by decide +kernel)⟩
theorem lw_p49 : lw_okq (⟨"PoemPagesModel", "begins", "(IIIII)V"⟩, 26) := ⟨⟨by decide +kernel, by decide +kernel⟩, List.mem_of_getElem? (i := 755) (by decide +kernel), List.mem_of_getElem? (i := 968) (by decide +kernel), List.mem_of_getElem? (i := 969) (by decide +kernel)⟩
theorem lw_p50 : lw_okq (⟨"PoemPagesModel", "wordFrom", "(II)I"⟩, 26) := ⟨⟨by decide +kernel, by decide +kernel⟩, List.mem_of_getElem? (i := 755) (by decide +kernel), List.mem_of_getElem? (i := 975) (by decide +kernel), List.mem_of_getElem? (i := 976) (by decide +kernel)⟩
theorem lw_p51 : lw_okq (⟨"PoemPagesModel", "paginates", "(I)V"⟩, 26) := ⟨⟨by decide +kernel, by decide +kernel⟩, List.mem_of_getElem? (i := 755) (by decide +kernel), List.mem_of_getElem? (i := 979) (by decide +kernel), List.mem_of_getElem? (i := 980) (by decide +kernel)⟩
theorem lw_p52 : lw_okq (⟨"PoemPagesModel", "turns", "()V"⟩, 26) := ⟨⟨by decide +kernel, by decide +kernel⟩, List.mem_of_getElem? (i := 755) (by decide +kernel), List.mem_of_getElem? (i := 983) (by decide +kernel), List.mem_of_getElem? (i := 984) (by decide +kernel)⟩
theorem lw_p53 : lw_okq (⟨"PoemPagesModel", "linePart", "(II)I"⟩, 26) := ⟨⟨by decide +kernel, by decide +kernel⟩, List.mem_of_getElem? (i := 755) (by decide +kernel), List.mem_of_getElem? (i := 987) (by decide +kernel), List.mem_of_getElem? (i := 988) (by decide +kernel)⟩
theorem lw_p54 : lw_okq (⟨"PoemPagesModel", "letters", "(I)I"⟩, 26) := ⟨⟨by decide +kernel, by decide +kernel⟩, List.mem_of_getElem? (i := 755) (by decide +kernel), List.mem_of_getElem? (i := 991) (by decide +kernel), List.mem_of_getElem? (i := 992) (by decide +kernel)⟩
theorem lw_p55 : lw_okq (⟨"PoemPagesModel", "numberOf", "(I)I"⟩, 26) := ⟨⟨by decide +kernel, by decide +kernel⟩, List.mem_of_getElem? (i := 755) (by decide +kernel), List.mem_of_getElem? (i := 995) (by decide +kernel), List.mem_of_getElem? (i := 996) (by decide +kernel)⟩
theorem lw_p56 : lw_okq (⟨"PoemPagesModel", "rowPart", "(II)I"⟩, 26) := ⟨⟨by decide +kernel, by decide +kernel⟩, List.mem_of_getElem? (i := 755) (by decide +kernel), List.mem_of_getElem? (i := 1011) (by decide +kernel), List.mem_of_getElem? (i := 1012) (by decide +kernel)⟩
theorem lw_p57 : lw_okq (⟨"PoemPagesModel", "shown", "(I)I"⟩, 26) := ⟨⟨by decide +kernel, by decide +kernel⟩, List.mem_of_getElem? (i := 755) (by decide +kernel), List.mem_of_getElem? (i := 1015) (by decide +kernel), List.mem_of_getElem? (i := 1016) (by decide +kernel)⟩
theorem lw_p58 : lw_okq (⟨"PoemPagesModel", "pages", "()I"⟩, 26) := ⟨⟨by decide +kernel, by decide +kernel⟩, List.mem_of_getElem? (i := 755) (by decide +kernel), List.mem_of_getElem? (i := 1023) (by decide +kernel), List.mem_of_getElem? (i := 1024) (by decide +kernel)⟩
theorem lw_p59 : lw_okq (⟨"PoemPagesModel", "byteAt", "(II)I"⟩, 26) := ⟨⟨by decide +kernel, by decide +kernel⟩, List.mem_of_getElem? (i := 755) (by decide +kernel), List.mem_of_getElem? (i := 1027) (by decide +kernel), List.mem_of_getElem? (i := 1028) (by decide +kernel)⟩
theorem lw_p60 : lw_okq (⟨"PoemPagesModel", "pagePart", "(II)I"⟩, 26) := ⟨⟨by decide +kernel, by decide +kernel⟩, List.mem_of_getElem? (i := 755) (by decide +kernel), List.mem_of_getElem? (i := 1035) (by decide +kernel), List.mem_of_getElem? (i := 1036) (by decide +kernel)⟩
theorem lw_p61 : lw_okq (⟨"PoemPagesModel", "isMarked", "(I)Z"⟩, 26) := ⟨⟨by decide +kernel, by decide +kernel⟩, List.mem_of_getElem? (i := 755) (by decide +kernel), List.mem_of_getElem? (i := 1039) (by decide +kernel), List.mem_of_getElem? (i := 1040) (by decide +kernel)⟩
theorem lw_p62 : lw_okq (⟨"PoemPagesModel", "firstOn", "(I)I"⟩, 26) := ⟨⟨by decide +kernel, by decide +kernel⟩, List.mem_of_getElem? (i := 755) (by decide +kernel), List.mem_of_getElem? (i := 1043) (by decide +kernel), List.mem_of_getElem? (i := 1044) (by decide +kernel)⟩
theorem lw_p63 : lw_okq (⟨"PoemPagesModel", "far", "(II)I"⟩, 26) := ⟨⟨by decide +kernel, by decide +kernel⟩, List.mem_of_getElem? (i := 755) (by decide +kernel), List.mem_of_getElem? (i := 1051) (by decide +kernel), List.mem_of_getElem? (i := 1052) (by decide +kernel)⟩
def lw_privs_4 : List (MethodName × Nat) := [(⟨"PoemPagesModel", "leans", "(I)Z"⟩, 26), (⟨"PoemPagesModel", "begins", "(IIIII)V"⟩, 26), (⟨"PoemPagesModel", "wordFrom", "(II)I"⟩, 26), (⟨"PoemPagesModel", "paginates", "(I)V"⟩, 26), (⟨"PoemPagesModel", "turns", "()V"⟩, 26), (⟨"PoemPagesModel", "linePart", "(II)I"⟩, 26), (⟨"PoemPagesModel", "letters", "(I)I"⟩, 26), (⟨"PoemPagesModel", "numberOf", "(I)I"⟩, 26), (⟨"PoemPagesModel", "rowPart", "(II)I"⟩, 26), (⟨"PoemPagesModel", "shown", "(I)I"⟩, 26), (⟨"PoemPagesModel", "pages", "()I"⟩, 26), (⟨"PoemPagesModel", "byteAt", "(II)I"⟩, 26), (⟨"PoemPagesModel", "pagePart", "(II)I"⟩, 26), (⟨"PoemPagesModel", "isMarked", "(I)Z"⟩, 26), (⟨"PoemPagesModel", "firstOn", "(I)I"⟩, 26), (⟨"PoemPagesModel", "far", "(II)I"⟩, 26)]
theorem lw_r4 : ∀ q ∈ lw_privs_4, lw_okq q := List.forall_mem_cons.mpr ⟨lw_p48, List.forall_mem_cons.mpr ⟨lw_p49, List.forall_mem_cons.mpr ⟨lw_p50, List.forall_mem_cons.mpr ⟨lw_p51, List.forall_mem_cons.mpr ⟨lw_p52, List.forall_mem_cons.mpr ⟨lw_p53, List.forall_mem_cons.mpr ⟨lw_p54, List.forall_mem_cons.mpr ⟨lw_p55, List.forall_mem_cons.mpr ⟨lw_p56, List.forall_mem_cons.mpr ⟨lw_p57, List.forall_mem_cons.mpr ⟨lw_p58, List.forall_mem_cons.mpr ⟨lw_p59, List.forall_mem_cons.mpr ⟨lw_p60, List.forall_mem_cons.mpr ⟨lw_p61, List.forall_mem_cons.mpr ⟨lw_p62, List.forall_mem_cons.mpr ⟨lw_p63, fun _ h => absurd h List.not_mem_nil⟩⟩⟩⟩⟩⟩⟩⟩⟩⟩⟩⟩⟩⟩⟩⟩
theorem lw_p64 : lw_okq (⟨"PoemPagesModel", "nearest", "(I)I"⟩, 26) := ⟨⟨by decide +kernel, by decide +kernel⟩, List.mem_of_getElem? (i := 755) (by decide +kernel), List.mem_of_getElem? (i := 1062) (by decide +kernel), List.mem_of_getElem? (i := 1063) (by decide +kernel)⟩
theorem lw_p65 : lw_okq (⟨"PoemPagesModel", "overRows", "()I"⟩, 26) := ⟨⟨by decide +kernel, by decide +kernel⟩, List.mem_of_getElem? (i := 755) (by decide +kernel), List.mem_of_getElem? (i := 1070) (by decide +kernel), List.mem_of_getElem? (i := 1071) (by decide +kernel)⟩
theorem lw_p66 : lw_okq (⟨"PoemPagesModel", "withinRows", "()I"⟩, 26) := ⟨⟨by decide +kernel, by decide +kernel⟩, List.mem_of_getElem? (i := 755) (by decide +kernel), List.mem_of_getElem? (i := 1074) (by decide +kernel), List.mem_of_getElem? (i := 1075) (by decide +kernel)⟩
theorem lw_p67 : lw_okq (⟨"PoemPagesModel", "number", "(I)I"⟩, 26) := ⟨⟨by decide +kernel, by decide +kernel⟩, List.mem_of_getElem? (i := 755) (by decide +kernel), List.mem_of_getElem? (i := 1086) (by decide +kernel), List.mem_of_getElem? (i := 1087) (by decide +kernel)⟩
theorem lw_p68 : lw_okq (⟨"PoemPagesModel", "marked", "()I"⟩, 26) := ⟨⟨by decide +kernel, by decide +kernel⟩, List.mem_of_getElem? (i := 755) (by decide +kernel), List.mem_of_getElem? (i := 1090) (by decide +kernel), List.mem_of_getElem? (i := 1091) (by decide +kernel)⟩
theorem lw_p69 : lw_okq (⟨"PoemPagesModel", "widest", "()I"⟩, 26) := ⟨⟨by decide +kernel, by decide +kernel⟩, List.mem_of_getElem? (i := 755) (by decide +kernel), List.mem_of_getElem? (i := 1094) (by decide +kernel), List.mem_of_getElem? (i := 1095) (by decide +kernel)⟩
theorem lw_p70 : lw_okq (⟨"PoemPagesModel", "mixes", "(J)V"⟩, 26) := ⟨⟨by decide +kernel, by decide +kernel⟩, List.mem_of_getElem? (i := 755) (by decide +kernel), List.mem_of_getElem? (i := 1103) (by decide +kernel), List.mem_of_getElem? (i := 1104) (by decide +kernel)⟩
def lw_privs_5 : List (MethodName × Nat) := [(⟨"PoemPagesModel", "nearest", "(I)I"⟩, 26), (⟨"PoemPagesModel", "overRows", "()I"⟩, 26), (⟨"PoemPagesModel", "withinRows", "()I"⟩, 26), (⟨"PoemPagesModel", "number", "(I)I"⟩, 26), (⟨"PoemPagesModel", "marked", "()I"⟩, 26), (⟨"PoemPagesModel", "widest", "()I"⟩, 26), (⟨"PoemPagesModel", "mixes", "(J)V"⟩, 26)]
theorem lw_r5 : ∀ q ∈ lw_privs_5, lw_okq q := List.forall_mem_cons.mpr ⟨lw_p64, List.forall_mem_cons.mpr ⟨lw_p65, List.forall_mem_cons.mpr ⟨lw_p66, List.forall_mem_cons.mpr ⟨lw_p67, List.forall_mem_cons.mpr ⟨lw_p68, List.forall_mem_cons.mpr ⟨lw_p69, List.forall_mem_cons.mpr ⟨lw_p70, fun _ h => absurd h List.not_mem_nil⟩⟩⟩⟩⟩⟩⟩
def lw_privs : List (MethodName × Nat) := lw_privs_1 ++ (lw_privs_2 ++ (lw_privs_3 ++ (lw_privs_4 ++ (lw_privs_5))))
def lw_tbl : List Cond := k2_sels lw_privs ++ tables_1
theorem lw_privs_ok : ∀ q ∈ lw_privs, lw_okq q := by
  show ∀ q ∈ lw_privs_1 ++ (lw_privs_2 ++ (lw_privs_3 ++ (lw_privs_4 ++ (lw_privs_5)))), lw_okq q
  exact List.forall_mem_append.mpr ⟨lw_r1, List.forall_mem_append.mpr ⟨lw_r2, List.forall_mem_append.mpr ⟨lw_r3, List.forall_mem_append.mpr ⟨lw_r4, lw_r5⟩⟩⟩⟩

/-! ===== BEGIN words of one list among another's, by their places ===== -/
theorem goodIn_r {big : List Cond} (ws : List Cond) (ps : List Nat) (hp : ws = ps.filterMap (fun i => big[i]?)) (h : ws.all goodWord = true) : GoodIn big ws := by
  intro w hw
  have h1 := List.all_eq_true.mp h w hw
  rw [hp] at hw
  obtain ⟨i, -, hi⟩ := List.mem_filterMap.mp hw
  have hm : w ∈ big := by first | exact List.mem_of_getElem? hi | exact List.getElem?_mem hi
  exact ⟨hm, good_of_word h1⟩
theorem goodIn_app {big a b : List Cond} (ha : GoodIn big a) (hb : GoodIn big b) : GoodIn big (a ++ b) := fun w h => (List.mem_append.mp h).elim (ha w) (hb w)
theorem goodIn_ca {big a b : List Cond} {c : Cond} (ha : GoodIn big (c :: a)) (hb : GoodIn big b) : GoodIn big (c :: (a ++ b)) := fun w h => (List.mem_cons.mp h).elim (fun e => ha w (List.mem_cons.mpr (Or.inl e))) (fun h => (List.mem_append.mp h).elim (fun h => ha w (List.mem_cons.mpr (Or.inr h))) (hb w))
theorem goodIn_sub {big ws : List Cond} (hm : ∀ w ∈ ws, w ∈ big) (h : ws.all goodWord = true) : GoodIn big ws := fun w hw => ⟨hm w hw, good_of_word (List.all_eq_true.mp h w hw)⟩
/-! ===== END ===== -/

/-! ===== BEGIN printed: names, fields, word lists, decode rows ===== -/
def RX0 : String := "PoemPages$History"
def TX0 : u_T := fun k => match k with
  | 0 => ("PoemPages$History", "states", "[LPoemPages$Poem;", true)
  | _ => ("PoemPages$History", "count", "I", false)
def tyX0 : Nat → FieldType := fun k => match k with
  | 0 => .array (.object "PoemPages$Poem")
  | _ => .int
abbrev wsX00 : List Cond := u_ws RX0 TX0 2
theorem nmX0 : ∀ a, a < 2 → ∀ b, b < 2 → a ≠ b → (TX0 a).2.1 ≠ (TX0 b).2.1 := by decide +kernel
theorem tyX0_ok : ∀ k, k < 2 → parseFieldDescriptor (TX0 k).2.2.1 = some (tyX0 k) := by decide +kernel
abbrev cX0_init : ByteArray := prog_2_method_1_code
def yX0_init : MethodName := ⟨RX0, "<init>", "()V"⟩
abbrev cX0_keepState : ByteArray := prog_2_method_2_code
def yX0_keepState : MethodName := ⟨RX0, "keepState", "(LPoemPages$Poem;)V"⟩
abbrev cX0_bringBack : ByteArray := prog_2_method_3_code
def yX0_bringBack : MethodName := ⟨RX0, "bringBack", "(LPoemPages$Poem;)V"⟩
abbrev cX0_dropOldest : ByteArray := prog_2_method_4_code
def yX0_dropOldest : MethodName := ⟨RX0, "dropOldest", "()V"⟩
abbrev cX0_stateAt : ByteArray := prog_2_method_5_code
def yX0_stateAt : MethodName := ⟨RX0, "stateAt", "(I)LPoemPages$Poem;"⟩
def RX1 : String := "PoemPages$Layout"
def TX1 : u_T := fun k => match k with
  | 0 => ("PoemPages$Layout", "rows", "[LPoemPages$Row;", true)
  | 1 => ("PoemPages$Layout", "spans", "[LPoemPages$LineSpan;", true)
  | 2 => ("PoemPages$Layout", "stanzas", "[LPoemPages$Stanza;", true)
  | 3 => ("PoemPages$Layout", "pages", "[LPoemPages$Page;", true)
  | 4 => ("PoemPages$Layout", "rowCount", "I", false)
  | 5 => ("PoemPages$Layout", "stanzaCount", "I", false)
  | 6 => ("PoemPages$Layout", "pageCount", "I", false)
  | 7 => ("PoemPages$Layout", "spanCount", "I", false)
  | _ => ("PoemPages$Layout", "nextPlace", "I", false)
def tyX1 : Nat → FieldType := fun k => match k with
  | 0 => .array (.object "PoemPages$Row")
  | 1 => .array (.object "PoemPages$LineSpan")
  | 2 => .array (.object "PoemPages$Stanza")
  | 3 => .array (.object "PoemPages$Page")
  | 4 => .int
  | 5 => .int
  | 6 => .int
  | 7 => .int
  | _ => .int
abbrev wsX10 : List Cond := u_ws RX1 TX1 9
theorem nmX1 : ∀ a, a < 9 → ∀ b, b < 9 → a ≠ b → (TX1 a).2.1 ≠ (TX1 b).2.1 := by decide +kernel
theorem tyX1_ok : ∀ k, k < 9 → parseFieldDescriptor (TX1 k).2.2.1 = some (tyX1 k) := by decide +kernel
abbrev cX1_init : ByteArray := prog_3_method_1_code
def yX1_init : MethodName := ⟨RX1, "<init>", "()V"⟩
abbrev cX1_rowAt : ByteArray := prog_3_method_2_code
def yX1_rowAt : MethodName := ⟨RX1, "rowAt", "(I)LPoemPages$Row;"⟩
abbrev cX1_spanAt : ByteArray := prog_3_method_3_code
def yX1_spanAt : MethodName := ⟨RX1, "spanAt", "(I)LPoemPages$LineSpan;"⟩
abbrev cX1_stanzaAt : ByteArray := prog_3_method_4_code
def yX1_stanzaAt : MethodName := ⟨RX1, "stanzaAt", "(I)LPoemPages$Stanza;"⟩
abbrev cX1_pageAt : ByteArray := prog_3_method_5_code
def yX1_pageAt : MethodName := ⟨RX1, "pageAt", "(I)LPoemPages$Page;"⟩
abbrev cX1_rowAtPlace : ByteArray := prog_3_method_6_code
def yX1_rowAtPlace : MethodName := ⟨RX1, "rowAtPlace", "(LPoemPages$Page;I)LPoemPages$Row;"⟩
abbrev cX1_runOvers : ByteArray := prog_3_method_7_code
def yX1_runOvers : MethodName := ⟨RX1, "runOvers", "()I"⟩
abbrev cX1_cuts : ByteArray := prog_3_method_8_code
def yX1_cuts : MethodName := ⟨RX1, "cuts", "()I"⟩
abbrev cX1_markedPages : ByteArray := prog_3_method_9_code
def yX1_markedPages : MethodName := ⟨RX1, "markedPages", "()I"⟩
abbrev cX1_lastNumber : ByteArray := prog_3_method_10_code
def yX1_lastNumber : MethodName := ⟨RX1, "lastNumber", "()I"⟩
abbrev cX1_greatestWidth : ByteArray := prog_3_method_11_code
def yX1_greatestWidth : MethodName := ⟨RX1, "greatestWidth", "(II)I"⟩
abbrev cX1_distanceFrom : ByteArray := prog_3_method_12_code
def yX1_distanceFrom : MethodName := ⟨RX1, "distanceFrom", "(ILPoemPages$Stanza;)I"⟩
abbrev cX1_breakLines : ByteArray := prog_3_method_13_code
def yX1_breakLines : MethodName := ⟨RX1, "breakLines", "(LPoemPages$Poem;I)V"⟩
abbrev cX1_putOnPages : ByteArray := prog_3_method_14_code
def yX1_putOnPages : MethodName := ⟨RX1, "putOnPages", "(II)V"⟩
abbrev cX1_addFirstRow : ByteArray := prog_3_method_15_code
def yX1_addFirstRow : MethodName := ⟨RX1, "addFirstRow", "(LPoemPages$Line;ILPoemPages$LineSpan;LPoemPages$Poem;I)LPoemPages$Row;"⟩
abbrev cX1_putWords : ByteArray := prog_3_method_16_code
def yX1_putWords : MethodName := ⟨RX1, "putWords", "(LPoemPages$Words;LPoemPages$Row;II)V"⟩
abbrev cX1_putWord : ByteArray := prog_3_method_17_code
def yX1_putWord : MethodName := ⟨RX1, "putWord", "(ILPoemPages$Row;II)LPoemPages$Row;"⟩
abbrev cX1_passOver : ByteArray := prog_3_method_18_code
def yX1_passOver : MethodName := ⟨RX1, "passOver", "(LPoemPages$Stanza;II)V"⟩
abbrev cX1_putStanza : ByteArray := prog_3_method_19_code
def yX1_putStanza : MethodName := ⟨RX1, "putStanza", "(LPoemPages$Stanza;I)V"⟩
abbrev cX1_putRow : ByteArray := prog_3_method_20_code
def yX1_putRow : MethodName := ⟨RX1, "putRow", "(LPoemPages$Row;II)V"⟩
abbrev cX1_closePage : ByteArray := prog_3_method_21_code
def yX1_closePage : MethodName := ⟨RX1, "closePage", "(I)V"⟩
abbrev cX1_beginsWithStanza : ByteArray := prog_3_method_22_code
def yX1_beginsWithStanza : MethodName := ⟨RX1, "beginsWithStanza", "(LPoemPages$Page;)Z"⟩
abbrev cX1_widthOf : ByteArray := prog_3_method_23_code
def yX1_widthOf : MethodName := ⟨RX1, "widthOf", "(I)I"⟩
abbrev cX1_addRow : ByteArray := prog_3_method_24_code
def yX1_addRow : MethodName := ⟨RX1, "addRow", "(III)LPoemPages$Row;"⟩
abbrev cX1_addSpan : ByteArray := prog_3_method_25_code
def yX1_addSpan : MethodName := ⟨RX1, "addSpan", "(LPoemPages$Line;Z)LPoemPages$LineSpan;"⟩
abbrev cX1_addStanza : ByteArray := prog_3_method_26_code
def yX1_addStanza : MethodName := ⟨RX1, "addStanza", "(I)LPoemPages$Stanza;"⟩
abbrev cX1_lastStanza : ByteArray := prog_3_method_27_code
def yX1_lastStanza : MethodName := ⟨RX1, "lastStanza", "(I)LPoemPages$Stanza;"⟩
abbrev cX1_addPage : ByteArray := prog_3_method_28_code
def yX1_addPage : MethodName := ⟨RX1, "addPage", "(I)LPoemPages$Page;"⟩
def RX2 : String := "PoemPages$Line"
def TX2 : u_T := fun k => match k with
  | 0 => ("PoemPages$Line", "words", "LPoemPages$Words;", true)
  | 1 => ("PoemPages$Line", "steps", "I", true)
  | 2 => ("PoemPages$Line", "half", "Z", true)
  | _ => ("PoemPages$Line", "last", "Z", true)
def tyX2 : Nat → FieldType := fun k => match k with
  | 0 => .object "PoemPages$Words"
  | 1 => .int
  | 2 => .boolean
  | _ => .boolean
abbrev wsX20 : List Cond := u_ws RX2 TX2 4
theorem nmX2 : ∀ a, a < 4 → ∀ b, b < 4 → a ≠ b → (TX2 a).2.1 ≠ (TX2 b).2.1 := by decide +kernel
theorem tyX2_ok : ∀ k, k < 4 → parseFieldDescriptor (TX2 k).2.2.1 = some (tyX2 k) := by decide +kernel
abbrev cX2_init : ByteArray := prog_4_method_1_code
def yX2_init : MethodName := ⟨RX2, "<init>", "(LPoemPages$Words;IZZ)V"⟩
def RX3 : String := "PoemPages$LineSpan"
def TX3 : u_T := fun k => match k with
  | 0 => ("PoemPages$LineSpan", "leans", "Z", false)
  | 1 => ("PoemPages$LineSpan", "number", "I", false)
  | 2 => ("PoemPages$LineSpan", "stanza", "I", false)
  | 3 => ("PoemPages$LineSpan", "firstRow", "I", false)
  | _ => ("PoemPages$LineSpan", "rows", "I", false)
def tyX3 : Nat → FieldType := fun k => match k with
  | 0 => .boolean
  | 1 => .int
  | 2 => .int
  | 3 => .int
  | _ => .int
abbrev wsX30 : List Cond := u_ws RX3 TX3 5
theorem nmX3 : ∀ a, a < 5 → ∀ b, b < 5 → a ≠ b → (TX3 a).2.1 ≠ (TX3 b).2.1 := by decide +kernel
theorem tyX3_ok : ∀ k, k < 5 → parseFieldDescriptor (TX3 k).2.2.1 = some (tyX3 k) := by decide +kernel
abbrev cX3_init : ByteArray := prog_5_method_1_code
def yX3_init : MethodName := ⟨RX3, "<init>", "()V"⟩
def RX4 : String := "PoemPages$Page"
def TX4 : u_T := fun k => match k with
  | 0 => ("PoemPages$Page", "firstRow", "I", false)
  | 1 => ("PoemPages$Page", "rows", "I", false)
  | 2 => ("PoemPages$Page", "places", "I", false)
  | 3 => ("PoemPages$Page", "lines", "I", false)
  | _ => ("PoemPages$Page", "marked", "Z", false)
def tyX4 : Nat → FieldType := fun k => match k with
  | 0 => .int
  | 1 => .int
  | 2 => .int
  | 3 => .int
  | _ => .boolean
abbrev wsX40 : List Cond := u_ws RX4 TX4 5
theorem nmX4 : ∀ a, a < 5 → ∀ b, b < 5 → a ≠ b → (TX4 a).2.1 ≠ (TX4 b).2.1 := by decide +kernel
theorem tyX4_ok : ∀ k, k < 5 → parseFieldDescriptor (TX4 k).2.2.1 = some (tyX4 k) := by decide +kernel
abbrev cX4_init : ByteArray := prog_6_method_1_code
def yX4_init : MethodName := ⟨RX4, "<init>", "()V"⟩
def RX5 : String := "PoemPages$Poem"
def TX5 : u_T := fun k => match k with
  | 0 => ("PoemPages$Poem", "lines", "[LPoemPages$Line;", true)
  | 1 => ("PoemPages$Poem", "settings", "[I", true)
  | _ => ("PoemPages$Poem", "count", "I", false)
def tyX5 : Nat → FieldType := fun k => match k with
  | 0 => .array (.object "PoemPages$Line")
  | 1 => .array .int
  | _ => .int
abbrev wsX50 : List Cond := u_ws RX5 TX5 3
theorem nmX5 : ∀ a, a < 3 → ∀ b, b < 3 → a ≠ b → (TX5 a).2.1 ≠ (TX5 b).2.1 := by decide +kernel
theorem tyX5_ok : ∀ k, k < 3 → parseFieldDescriptor (TX5 k).2.2.1 = some (tyX5 k) := by decide +kernel
abbrev cX5_init : ByteArray := prog_7_method_1_code
def yX5_init : MethodName := ⟨RX5, "<init>", "()V"⟩
abbrev cX5_lineAt : ByteArray := prog_7_method_2_code
def yX5_lineAt : MethodName := ⟨RX5, "lineAt", "(I)LPoemPages$Line;"⟩
abbrev cX5_setting : ByteArray := prog_7_method_3_code
def yX5_setting : MethodName := ⟨RX5, "setting", "(I)I"⟩
abbrev cX5_changeSetting : ByteArray := prog_7_method_4_code
def yX5_changeSetting : MethodName := ⟨RX5, "changeSetting", "(II)V"⟩
abbrev cX5_beginsStanza : ByteArray := prog_7_method_5_code
def yX5_beginsStanza : MethodName := ⟨RX5, "beginsStanza", "(I)Z"⟩
abbrev cX5_exchange : ByteArray := prog_7_method_6_code
def yX5_exchange : MethodName := ⟨RX5, "exchange", "(ILPoemPages$Line;)V"⟩
abbrev cX5_putIn : ByteArray := prog_7_method_7_code
def yX5_putIn : MethodName := ⟨RX5, "putIn", "(ILPoemPages$Line;)V"⟩
abbrev cX5_takeOut : ByteArray := prog_7_method_8_code
def yX5_takeOut : MethodName := ⟨RX5, "takeOut", "(I)V"⟩
abbrev cX5_moveLines : ByteArray := prog_7_method_9_code
def yX5_moveLines : MethodName := ⟨RX5, "moveLines", "(III)V"⟩
abbrev cX5_becomeLike : ByteArray := prog_7_method_10_code
def yX5_becomeLike : MethodName := ⟨RX5, "becomeLike", "(LPoemPages$Poem;)V"⟩
abbrev cX5_moveLine : ByteArray := prog_7_method_11_code
def yX5_moveLine : MethodName := ⟨RX5, "moveLine", "(II)V"⟩
def RX6 : String := "PoemPages$Row"
def TX6 : u_T := fun k => match k with
  | 0 => ("PoemPages$Row", "line", "I", false)
  | 1 => ("PoemPages$Row", "part", "I", false)
  | 2 => ("PoemPages$Row", "page", "I", false)
  | 3 => ("PoemPages$Row", "place", "I", false)
  | 4 => ("PoemPages$Row", "column", "I", false)
  | 5 => ("PoemPages$Row", "from", "I", false)
  | 6 => ("PoemPages$Row", "length", "I", false)
  | 7 => ("PoemPages$Row", "shown", "I", false)
  | _ => ("PoemPages$Row", "withinWord", "Z", false)
def tyX6 : Nat → FieldType := fun k => match k with
  | 0 => .int
  | 1 => .int
  | 2 => .int
  | 3 => .int
  | 4 => .int
  | 5 => .int
  | 6 => .int
  | 7 => .int
  | _ => .boolean
abbrev wsX60 : List Cond := u_ws RX6 TX6 9
theorem nmX6 : ∀ a, a < 9 → ∀ b, b < 9 → a ≠ b → (TX6 a).2.1 ≠ (TX6 b).2.1 := by decide +kernel
theorem tyX6_ok : ∀ k, k < 9 → parseFieldDescriptor (TX6 k).2.2.1 = some (tyX6 k) := by decide +kernel
abbrev cX6_init : ByteArray := prog_8_method_1_code
def yX6_init : MethodName := ⟨RX6, "<init>", "()V"⟩
abbrev cX6_end : ByteArray := prog_8_method_2_code
def yX6_end : MethodName := ⟨RX6, "end", "()I"⟩
def RX7 : String := "PoemPages$Stanza"
def TX7 : u_T := fun k => match k with
  | 0 => ("PoemPages$Stanza", "firstLine", "I", false)
  | 1 => ("PoemPages$Stanza", "firstRow", "I", false)
  | _ => ("PoemPages$Stanza", "rows", "I", false)
def tyX7 : Nat → FieldType := fun k => match k with
  | 0 => .int
  | 1 => .int
  | _ => .int
abbrev wsX70 : List Cond := u_ws RX7 TX7 3
theorem nmX7 : ∀ a, a < 3 → ∀ b, b < 3 → a ≠ b → (TX7 a).2.1 ≠ (TX7 b).2.1 := by decide +kernel
theorem tyX7_ok : ∀ k, k < 3 → parseFieldDescriptor (TX7 k).2.2.1 = some (tyX7 k) := by decide +kernel
abbrev cX7_init : ByteArray := prog_9_method_1_code
def yX7_init : MethodName := ⟨RX7, "<init>", "()V"⟩
def RX8 : String := "PoemPages$Text"
def TX8 : u_T := fun k => match k with
  | 0 => ("PoemPages$Text", "bytes", "[B", true)
  | _ => ("PoemPages$Text", "length", "I", false)
def tyX8 : Nat → FieldType := fun k => match k with
  | 0 => .array .byte
  | _ => .int
abbrev wsX80 : List Cond := u_ws RX8 TX8 2
theorem nmX8 : ∀ a, a < 2 → ∀ b, b < 2 → a ≠ b → (TX8 a).2.1 ≠ (TX8 b).2.1 := by decide +kernel
theorem tyX8_ok : ∀ k, k < 2 → parseFieldDescriptor (TX8 k).2.2.1 = some (tyX8 k) := by decide +kernel
abbrev cX8_init : ByteArray := prog_10_method_1_code
def yX8_init : MethodName := ⟨RX8, "<init>", "()V"⟩
abbrev cX8_append : ByteArray := prog_10_method_2_code
def yX8_append : MethodName := ⟨RX8, "append", "(I)V"⟩
abbrev cX8_byteAt : ByteArray := prog_10_method_3_code
def yX8_byteAt : MethodName := ⟨RX8, "byteAt", "(I)I"⟩
abbrev cX8_lineFault : ByteArray := prog_10_method_4_code
def yX8_lineFault : MethodName := ⟨RX8, "lineFault", "()I"⟩
abbrev cX8_shapeFault : ByteArray := prog_10_method_5_code
def yX8_shapeFault : MethodName := ⟨RX8, "shapeFault", "()I"⟩
abbrev cX8_namedShape : ByteArray := prog_10_method_6_code
def yX8_namedShape : MethodName := ⟨RX8, "namedShape", "()I"⟩
abbrev cX8_toLine : ByteArray := prog_10_method_7_code
def yX8_toLine : MethodName := ⟨RX8, "toLine", "()LPoemPages$Line;"⟩
abbrev cX8_behindBlanks : ByteArray := prog_10_method_8_code
def yX8_behindBlanks : MethodName := ⟨RX8, "behindBlanks", "(I)I"⟩
abbrev cX8_behindLetters : ByteArray := prog_10_method_9_code
def yX8_behindLetters : MethodName := ⟨RX8, "behindLetters", "(I)I"⟩
abbrev cX8_isBetween : ByteArray := prog_10_method_10_code
def yX8_isBetween : MethodName := ⟨RX8, "isBetween", "(IILjava/lang/String;)Z"⟩
def RX9 : String := "PoemPages$Words"
def TX9 : u_T := fun k => match k with
  | 0 => ("PoemPages$Words", "bytes", "[B", true)
  | 1 => ("PoemPages$Words", "lengths", "[I", true)
  | 2 => ("PoemPages$Words", "length", "I", false)
  | 3 => ("PoemPages$Words", "count", "I", false)
  | _ => ("PoemPages$Words", "letters", "I", false)
def tyX9 : Nat → FieldType := fun k => match k with
  | 0 => .array .byte
  | 1 => .array .int
  | 2 => .int
  | 3 => .int
  | _ => .int
abbrev wsX90 : List Cond := u_ws RX9 TX9 5
theorem nmX9 : ∀ a, a < 5 → ∀ b, b < 5 → a ≠ b → (TX9 a).2.1 ≠ (TX9 b).2.1 := by decide +kernel
theorem tyX9_ok : ∀ k, k < 5 → parseFieldDescriptor (TX9 k).2.2.1 = some (tyX9 k) := by decide +kernel
abbrev cX9_init : ByteArray := prog_11_method_1_code
def yX9_init : MethodName := ⟨RX9, "<init>", "()V"⟩
abbrev cX9_add : ByteArray := prog_11_method_2_code
def yX9_add : MethodName := ⟨RX9, "add", "(IZ)V"⟩
abbrev cX9_byteAt : ByteArray := prog_11_method_3_code
def yX9_byteAt : MethodName := ⟨RX9, "byteAt", "(I)I"⟩
abbrev cX9_lengthOf : ByteArray := prog_11_method_4_code
def yX9_lengthOf : MethodName := ⟨RX9, "lengthOf", "(I)I"⟩
abbrev cX9_append : ByteArray := prog_11_method_5_code
def yX9_append : MethodName := ⟨RX9, "append", "(I)V"⟩
def RX10 : String := "PoemPages"
def TX10 : u_T := fun k => match k with
  | 0 => ("PoemPages", "text", "LPoemPages$Text;", true)
  | 1 => ("PoemPages", "poem", "LPoemPages$Poem;", true)
  | 2 => ("PoemPages", "history", "LPoemPages$History;", true)
  | 3 => ("PoemPages", "layout", "LPoemPages$Layout;", true)
  | _ => ("PoemPages", "trial", "LPoemPages$Layout;", true)
def tyX10 : Nat → FieldType := fun k => match k with
  | 0 => .object "PoemPages$Text"
  | 1 => .object "PoemPages$Poem"
  | 2 => .object "PoemPages$History"
  | 3 => .object "PoemPages$Layout"
  | _ => .object "PoemPages$Layout"
abbrev wsX100 : List Cond := u_ws RX10 TX10 5
theorem nmX10 : ∀ a, a < 5 → ∀ b, b < 5 → a ≠ b → (TX10 a).2.1 ≠ (TX10 b).2.1 := by decide +kernel
theorem tyX10_ok : ∀ k, k < 5 → parseFieldDescriptor (TX10 k).2.2.1 = some (tyX10 k) := by decide +kernel
abbrev cX10_init : ByteArray := prog_1_method_1_code
def yX10_init : MethodName := ⟨RX10, "<init>", "()V"⟩
abbrev cX10_type : ByteArray := prog_1_method_2_code
def yX10_type : MethodName := ⟨RX10, "type", "(I)I"⟩
abbrev cX10_clear : ByteArray := prog_1_method_3_code
def yX10_clear : MethodName := ⟨RX10, "clear", "()I"⟩
abbrev cX10_fault : ByteArray := prog_1_method_4_code
def yX10_fault : MethodName := ⟨RX10, "fault", "(Z)I"⟩
abbrev cX10_insert : ByteArray := prog_1_method_5_code
def yX10_insert : MethodName := ⟨RX10, "insert", "(I)I"⟩
abbrev cX10_replace : ByteArray := prog_1_method_6_code
def yX10_replace : MethodName := ⟨RX10, "replace", "(I)I"⟩
abbrev cX10_remove : ByteArray := prog_1_method_7_code
def yX10_remove : MethodName := ⟨RX10, "remove", "(I)I"⟩
abbrev cX10_move : ByteArray := prog_1_method_8_code
def yX10_move : MethodName := ⟨RX10, "move", "(III)I"⟩
abbrev cX10_toggle : ByteArray := prog_1_method_9_code
def yX10_toggle : MethodName := ⟨RX10, "toggle", "(IZ)I"⟩
abbrev cX10_line : ByteArray := prog_1_method_10_code
def yX10_line : MethodName := ⟨RX10, "line", "(II)I"⟩
abbrev cX10_letter : ByteArray := prog_1_method_11_code
def yX10_letter : MethodName := ⟨RX10, "letter", "(II)I"⟩
abbrev cX10_set : ByteArray := prog_1_method_12_code
def yX10_set : MethodName := ⟨RX10, "set", "(II)I"⟩
abbrev cX10_undo : ByteArray := prog_1_method_13_code
def yX10_undo : MethodName := ⟨RX10, "undo", "()I"⟩
abbrev cX10_row : ByteArray := prog_1_method_14_code
def yX10_row : MethodName := ⟨RX10, "row", "(II)I"⟩
abbrev cX10_at : ByteArray := prog_1_method_15_code
def yX10_at : MethodName := ⟨RX10, "at", "(III)I"⟩
abbrev cX10_page : ByteArray := prog_1_method_16_code
def yX10_page : MethodName := ⟨RX10, "page", "(II)I"⟩
abbrev cX10_distance : ByteArray := prog_1_method_17_code
def yX10_distance : MethodName := ⟨RX10, "distance", "(I)I"⟩
abbrev cX10_shape : ByteArray := prog_1_method_18_code
def yX10_shape : MethodName := ⟨RX10, "shape", "(I)I"⟩
abbrev cX10_bestWidth : ByteArray := prog_1_method_19_code
def yX10_bestWidth : MethodName := ⟨RX10, "bestWidth", "(I)I"⟩
abbrev cX10_leastHeight : ByteArray := prog_1_method_20_code
def yX10_leastHeight : MethodName := ⟨RX10, "leastHeight", "(I)I"⟩
abbrev cX10_count : ByteArray := prog_1_method_21_code
def yX10_count : MethodName := ⟨RX10, "count", "(I)I"⟩
abbrev cX10_digest : ByteArray := prog_1_method_22_code
def yX10_digest : MethodName := ⟨RX10, "digest", "()J"⟩
abbrev cX10_layOut : ByteArray := prog_1_method_23_code
def yX10_layOut : MethodName := ⟨RX10, "layOut", "()V"⟩
abbrev cX10_numberWithWidth : ByteArray := prog_1_method_24_code
def yX10_numberWithWidth : MethodName := ⟨RX10, "numberWithWidth", "(II)I"⟩
abbrev cX10_countedSetting : ByteArray := prog_1_method_25_code
def yX10_countedSetting : MethodName := ⟨RX10, "countedSetting", "(II)I"⟩
abbrev cX10_byteInRow : ByteArray := prog_1_method_26_code
def yX10_byteInRow : MethodName := ⟨RX10, "byteInRow", "(LPoemPages$Row;I)I"⟩
abbrev cX10_withLines : ByteArray := prog_1_method_27_code
def yX10_withLines : MethodName := ⟨RX10, "withLines", "(J)J"⟩
abbrev cX10_withRows : ByteArray := prog_1_method_28_code
def yX10_withRows : MethodName := ⟨RX10, "withRows", "(J)J"⟩
abbrev cX10_withPages : ByteArray := prog_1_method_29_code
def yX10_withPages : MethodName := ⟨RX10, "withPages", "(J)J"⟩
abbrev cX10_withPlaces : ByteArray := prog_1_method_30_code
def yX10_withPlaces : MethodName := ⟨RX10, "withPlaces", "(J)J"⟩
abbrev cX10_mixed : ByteArray := prog_1_method_31_code
def yX10_mixed : MethodName := ⟨RX10, "mixed", "(JI)J"⟩
abbrev cX10_oneIf : ByteArray := prog_1_method_32_code
def yX10_oneIf : MethodName := ⟨RX10, "oneIf", "(Z)I"⟩
abbrev cX10_element : ByteArray := prog_1_method_33_code
def yX10_element : MethodName := ⟨RX10, "element", "([II)I"⟩
abbrev cX10_isLetter : ByteArray := prog_1_method_34_code
def yX10_isLetter : MethodName := ⟨RX10, "isLetter", "(I)Z"⟩
abbrev cX10_shapeName : ByteArray := prog_1_method_35_code
def yX10_shapeName : MethodName := ⟨RX10, "shapeName", "(I)Ljava/lang/String;"⟩
abbrev cX10_aim : ByteArray := prog_1_method_36_code
def yX10_aim : MethodName := ⟨RX10, "aim", "(IIII)I"⟩
def RX11 : String := "PoemPagesModel"
def TX11 : u_T := fun k => match k with
  | 0 => ("PoemPagesModel", "m", "[I", true)
  | 1 => ("PoemPagesModel", "past", "[I", true)
  | 2 => ("PoemPagesModel", "undos", "I", false)
  | 3 => ("PoemPagesModel", "text", "[I", true)
  | 4 => ("PoemPagesModel", "textLength", "I", false)
  | 5 => ("PoemPagesModel", "at", "I", false)
  | 6 => ("PoemPagesModel", "fault", "I", false)
  | 7 => ("PoemPagesModel", "read", "[I", true)
  | 8 => ("PoemPagesModel", "readShape", "I", false)
  | 9 => ("PoemPagesModel", "rowLine", "[I", true)
  | 10 => ("PoemPagesModel", "rowIndex", "[I", true)
  | 11 => ("PoemPagesModel", "rowFirst", "[I", true)
  | 12 => ("PoemPagesModel", "rowLength", "[I", true)
  | 13 => ("PoemPagesModel", "rowWithin", "[I", true)
  | 14 => ("PoemPagesModel", "rowByte", "[I", true)
  | 15 => ("PoemPagesModel", "rowPage", "[I", true)
  | 16 => ("PoemPagesModel", "rowPlace", "[I", true)
  | 17 => ("PoemPagesModel", "rows", "I", false)
  | 18 => ("PoemPagesModel", "lineStanza", "[I", true)
  | 19 => ("PoemPagesModel", "lineFirst", "[I", true)
  | 20 => ("PoemPagesModel", "lineRows", "[I", true)
  | 21 => ("PoemPagesModel", "stanzaRows", "[I", true)
  | 22 => ("PoemPagesModel", "page", "I", false)
  | 23 => ("PoemPagesModel", "place", "I", false)
  | 24 => ("PoemPagesModel", "isEmpty", "Z", false)
  | _ => ("PoemPagesModel", "hash", "J", false)
def tyX11 : Nat → FieldType := fun k => match k with
  | 0 => .array .int
  | 1 => .array .int
  | 2 => .int
  | 3 => .array .int
  | 4 => .int
  | 5 => .int
  | 6 => .int
  | 7 => .array .int
  | 8 => .int
  | 9 => .array .int
  | 10 => .array .int
  | 11 => .array .int
  | 12 => .array .int
  | 13 => .array .int
  | 14 => .array .int
  | 15 => .array .int
  | 16 => .array .int
  | 17 => .int
  | 18 => .array .int
  | 19 => .array .int
  | 20 => .array .int
  | 21 => .array .int
  | 22 => .int
  | 23 => .int
  | 24 => .boolean
  | _ => .long
abbrev wsX110 : List Cond := u_ws RX11 TX11 26
theorem nmX11 : ∀ a, a < 26 → ∀ b, b < 26 → a ≠ b → (TX11 a).2.1 ≠ (TX11 b).2.1 := by decide +kernel
theorem tyX11_ok : ∀ k, k < 26 → parseFieldDescriptor (TX11 k).2.2.1 = some (tyX11 k) := by decide +kernel
abbrev cX11_init : ByteArray := prog_13_method_1_code
def yX11_init : MethodName := ⟨RX11, "<init>", "()V"⟩
abbrev cX11_in : ByteArray := prog_13_method_2_code
def yX11_in : MethodName := ⟨RX11, "in", "(III)Z"⟩
abbrev cX11_lesser : ByteArray := prog_13_method_3_code
def yX11_lesser : MethodName := ⟨RX11, "lesser", "(II)I"⟩
abbrev cX11_keeps : ByteArray := prog_13_method_4_code
def yX11_keeps : MethodName := ⟨RX11, "keeps", "()V"⟩
abbrev cX11_undo : ByteArray := prog_13_method_5_code
def yX11_undo : MethodName := ⟨RX11, "undo", "()I"⟩
abbrev cX11_type : ByteArray := prog_13_method_6_code
def yX11_type : MethodName := ⟨RX11, "type", "(I)I"⟩
abbrev cX11_clear : ByteArray := prog_13_method_7_code
def yX11_clear : MethodName := ⟨RX11, "clear", "()I"⟩
abbrev cX11_next : ByteArray := prog_13_method_8_code
def yX11_next : MethodName := ⟨RX11, "next", "()I"⟩
abbrev cX11_isLetter : ByteArray := prog_13_method_9_code
def yX11_isLetter : MethodName := ⟨RX11, "isLetter", "()Z"⟩
abbrev cX11_skips : ByteArray := prog_13_method_10_code
def yX11_skips : MethodName := ⟨RX11, "skips", "()V"⟩
abbrev cX11_takes : ByteArray := prog_13_method_11_code
def yX11_takes : MethodName := ⟨RX11, "takes", "(I)Z"⟩
abbrev cX11_readsWord : ByteArray := prog_13_method_12_code
def yX11_readsWord : MethodName := ⟨RX11, "readsWord", "()V"⟩
abbrev cX11_readsLine : ByteArray := prog_13_method_13_code
def yX11_readsLine : MethodName := ⟨RX11, "readsLine", "()V"⟩
abbrev cX11_isName : ByteArray := prog_13_method_14_code
def yX11_isName : MethodName := ⟨RX11, "isName", "(IJI)Z"⟩
abbrev cX11_readsShape : ByteArray := prog_13_method_15_code
def yX11_readsShape : MethodName := ⟨RX11, "readsShape", "()V"⟩
abbrev cX11_fault : ByteArray := prog_13_method_16_code
def yX11_fault : MethodName := ⟨RX11, "fault", "(Z)I"⟩
abbrev cX11_isLine : ByteArray := prog_13_method_17_code
def yX11_isLine : MethodName := ⟨RX11, "isLine", "(I)Z"⟩
abbrev cX11_of : ByteArray := prog_13_method_18_code
def yX11_of : MethodName := ⟨RX11, "of", "(II)I"⟩
abbrev cX11_copies : ByteArray := prog_13_method_19_code
def yX11_copies : MethodName := ⟨RX11, "copies", "(II)V"⟩
abbrev cX11_lays : ByteArray := prog_13_method_20_code
def yX11_lays : MethodName := ⟨RX11, "lays", "(I)V"⟩
abbrev cX11_insert : ByteArray := prog_13_method_21_code
def yX11_insert : MethodName := ⟨RX11, "insert", "(I)I"⟩
abbrev cX11_replace : ByteArray := prog_13_method_22_code
def yX11_replace : MethodName := ⟨RX11, "replace", "(I)I"⟩
abbrev cX11_drops : ByteArray := prog_13_method_23_code
def yX11_drops : MethodName := ⟨RX11, "drops", "(I)V"⟩
abbrev cX11_remove : ByteArray := prog_13_method_24_code
def yX11_remove : MethodName := ⟨RX11, "remove", "(I)I"⟩
abbrev cX11_move : ByteArray := prog_13_method_25_code
def yX11_move : MethodName := ⟨RX11, "move", "(III)I"⟩
abbrev cX11_toggle : ByteArray := prog_13_method_26_code
def yX11_toggle : MethodName := ⟨RX11, "toggle", "(IZ)I"⟩
abbrev cX11_beginsStanza : ByteArray := prog_13_method_27_code
def yX11_beginsStanza : MethodName := ⟨RX11, "beginsStanza", "(I)Z"⟩
abbrev cX11_leans : ByteArray := prog_13_method_28_code
def yX11_leans : MethodName := ⟨RX11, "leans", "(I)Z"⟩
abbrev cX11_stanzaOf : ByteArray := prog_13_method_29_code
def yX11_stanzaOf : MethodName := ⟨RX11, "stanzaOf", "(I)I"⟩
abbrev cX11_stanzas : ByteArray := prog_13_method_30_code
def yX11_stanzas : MethodName := ⟨RX11, "stanzas", "()I"⟩
abbrev cX11_numberOf : ByteArray := prog_13_method_31_code
def yX11_numberOf : MethodName := ⟨RX11, "numberOf", "(I)I"⟩
abbrev cX11_begins : ByteArray := prog_13_method_32_code
def yX11_begins : MethodName := ⟨RX11, "begins", "(IIIII)V"⟩
abbrev cX11_wordFrom : ByteArray := prog_13_method_33_code
def yX11_wordFrom : MethodName := ⟨RX11, "wordFrom", "(II)I"⟩
abbrev cX11_laysRows : ByteArray := prog_13_method_34_code
def yX11_laysRows : MethodName := ⟨RX11, "laysRows", "(I)V"⟩
abbrev cX11_turns : ByteArray := prog_13_method_35_code
def yX11_turns : MethodName := ⟨RX11, "turns", "()V"⟩
abbrev cX11_paginates : ByteArray := prog_13_method_36_code
def yX11_paginates : MethodName := ⟨RX11, "paginates", "(I)V"⟩
abbrev cX11_draws : ByteArray := prog_13_method_37_code
def yX11_draws : MethodName := ⟨RX11, "draws", "()V"⟩
abbrev cX11_pages : ByteArray := prog_13_method_38_code
def yX11_pages : MethodName := ⟨RX11, "pages", "()I"⟩
abbrev cX11_letters : ByteArray := prog_13_method_39_code
def yX11_letters : MethodName := ⟨RX11, "letters", "(I)I"⟩
abbrev cX11_linePart : ByteArray := prog_13_method_40_code
def yX11_linePart : MethodName := ⟨RX11, "linePart", "(II)I"⟩
abbrev cX11_line : ByteArray := prog_13_method_41_code
def yX11_line : MethodName := ⟨RX11, "line", "(II)I"⟩
abbrev cX11_letter : ByteArray := prog_13_method_42_code
def yX11_letter : MethodName := ⟨RX11, "letter", "(II)I"⟩
abbrev cX11_set : ByteArray := prog_13_method_43_code
def yX11_set : MethodName := ⟨RX11, "set", "(II)I"⟩
abbrev cX11_shown : ByteArray := prog_13_method_44_code
def yX11_shown : MethodName := ⟨RX11, "shown", "(I)I"⟩
abbrev cX11_rowPart : ByteArray := prog_13_method_45_code
def yX11_rowPart : MethodName := ⟨RX11, "rowPart", "(II)I"⟩
abbrev cX11_row : ByteArray := prog_13_method_46_code
def yX11_row : MethodName := ⟨RX11, "row", "(II)I"⟩
abbrev cX11_byteAt : ByteArray := prog_13_method_47_code
def yX11_byteAt : MethodName := ⟨RX11, "byteAt", "(II)I"⟩
abbrev cX11_at : ByteArray := prog_13_method_48_code
def yX11_at : MethodName := ⟨RX11, "at", "(III)I"⟩
abbrev cX11_firstOn : ByteArray := prog_13_method_49_code
def yX11_firstOn : MethodName := ⟨RX11, "firstOn", "(I)I"⟩
abbrev cX11_isMarked : ByteArray := prog_13_method_50_code
def yX11_isMarked : MethodName := ⟨RX11, "isMarked", "(I)Z"⟩
abbrev cX11_pagePart : ByteArray := prog_13_method_51_code
def yX11_pagePart : MethodName := ⟨RX11, "pagePart", "(II)I"⟩
abbrev cX11_page : ByteArray := prog_13_method_52_code
def yX11_page : MethodName := ⟨RX11, "page", "(II)I"⟩
abbrev cX11_aim : ByteArray := prog_13_method_53_code
def yX11_aim : MethodName := ⟨RX11, "aim", "(IIII)I"⟩
abbrev cX11_far : ByteArray := prog_13_method_54_code
def yX11_far : MethodName := ⟨RX11, "far", "(II)I"⟩
abbrev cX11_nearest : ByteArray := prog_13_method_55_code
def yX11_nearest : MethodName := ⟨RX11, "nearest", "(I)I"⟩
abbrev cX11_distance : ByteArray := prog_13_method_56_code
def yX11_distance : MethodName := ⟨RX11, "distance", "(I)I"⟩
abbrev cX11_shape : ByteArray := prog_13_method_57_code
def yX11_shape : MethodName := ⟨RX11, "shape", "(I)I"⟩
abbrev cX11_overRows : ByteArray := prog_13_method_58_code
def yX11_overRows : MethodName := ⟨RX11, "overRows", "()I"⟩
abbrev cX11_withinRows : ByteArray := prog_13_method_59_code
def yX11_withinRows : MethodName := ⟨RX11, "withinRows", "()I"⟩
abbrev cX11_bestWidth : ByteArray := prog_13_method_60_code
def yX11_bestWidth : MethodName := ⟨RX11, "bestWidth", "(I)I"⟩
abbrev cX11_leastHeight : ByteArray := prog_13_method_61_code
def yX11_leastHeight : MethodName := ⟨RX11, "leastHeight", "(I)I"⟩
abbrev cX11_marked : ByteArray := prog_13_method_62_code
def yX11_marked : MethodName := ⟨RX11, "marked", "()I"⟩
abbrev cX11_widest : ByteArray := prog_13_method_63_code
def yX11_widest : MethodName := ⟨RX11, "widest", "()I"⟩
abbrev cX11_number : ByteArray := prog_13_method_64_code
def yX11_number : MethodName := ⟨RX11, "number", "(I)I"⟩
abbrev cX11_count : ByteArray := prog_13_method_65_code
def yX11_count : MethodName := ⟨RX11, "count", "(I)I"⟩
abbrev cX11_mixes : ByteArray := prog_13_method_66_code
def yX11_mixes : MethodName := ⟨RX11, "mixes", "(J)V"⟩
abbrev cX11_digest : ByteArray := prog_13_method_67_code
def yX11_digest : MethodName := ⟨RX11, "digest", "()J"⟩
def RJ9 : String := "java/lang/Math"
def TJ9 : u_T := fun k => match k with
  | _ => ("", "", "", false)
def tyJ9 : Nat → FieldType := fun k => match k with
  | _ => .int
abbrev wsJ90 : List Cond := u_ws RJ9 TJ9 0
theorem nmJ9 : ∀ a, a < 0 → ∀ b, b < 0 → a ≠ b → (TJ9 a).2.1 ≠ (TJ9 b).2.1 := by decide +kernel
theorem tyJ9_ok : ∀ k, k < 0 → parseFieldDescriptor (TJ9 k).2.2.1 = some (tyJ9 k) := by decide +kernel
abbrev cJ9_abs_0f7a4 : ByteArray := prog_14_method_59_code
def yJ9_abs_0f7a4 : MethodName := ⟨RJ9, "abs", "(I)I"⟩
abbrev cJ9_max_7cf53 : ByteArray := prog_14_method_65_code
def yJ9_max_7cf53 : MethodName := ⟨RJ9, "max", "(II)I"⟩
abbrev cJ9_min_7cf53 : ByteArray := prog_14_method_69_code
def yJ9_min_7cf53 : MethodName := ⟨RJ9, "min", "(II)I"⟩
def RJ0 : String := "java/lang/String"
def TJ0 : u_T := fun k => match k with
  | _ => ("", "", "", false)
def tyJ0 : Nat → FieldType := fun k => match k with
  | _ => .int
abbrev wsJ00 : List Cond := u_ws RJ0 TJ0 0
theorem nmJ0 : ∀ a, a < 0 → ∀ b, b < 0 → a ≠ b → (TJ0 a).2.1 ≠ (TJ0 b).2.1 := by decide +kernel
theorem tyJ0_ok : ∀ k, k < 0 → parseFieldDescriptor (TJ0 k).2.2.1 = some (tyJ0 k) := by decide +kernel
abbrev cJ0_length_8abf5 : ByteArray := prog_15_method_54_code
def yJ0_length_8abf5 : MethodName := ⟨RJ0, "length", "()I"⟩
abbrev cJ0_charAt_5068e : ByteArray := prog_15_method_56_code
def yJ0_charAt_5068e : MethodName := ⟨RJ0, "charAt", "(I)C"⟩
abbrev cJ0_coder_7d493 : ByteArray := prog_15_method_152_code
def yJ0_coder_7d493 : MethodName := ⟨RJ0, "coder", "()B"⟩
abbrev cJ0_isLatin1_aae02 : ByteArray := prog_15_method_154_code
def yJ0_isLatin1_aae02 : MethodName := ⟨RJ0, "isLatin1", "()Z"⟩
abbrev cJ0_checkIndex_df160 : ByteArray := prog_15_method_155_code
def yJ0_checkIndex_df160 : MethodName := ⟨RJ0, "checkIndex", "(II)V"⟩
def RJ1 : String := "java/lang/StringLatin1"
def TJ1 : u_T := fun k => match k with
  | _ => ("", "", "", false)
def tyJ1 : Nat → FieldType := fun k => match k with
  | _ => .int
abbrev wsJ10 : List Cond := u_ws RJ1 TJ1 0
theorem nmJ1 : ∀ a, a < 0 → ∀ b, b < 0 → a ≠ b → (TJ1 a).2.1 ≠ (TJ1 b).2.1 := by decide +kernel
theorem tyJ1_ok : ∀ k, k < 0 → parseFieldDescriptor (TJ1 k).2.2.1 = some (tyJ1 k) := by decide +kernel
abbrev cJ1_charAt_3b067 : ByteArray := prog_16_method_2_code
def yJ1_charAt_3b067 : MethodName := ⟨RJ1, "charAt", "([BI)C"⟩
def RJ2 : String := "java/lang/StringUTF16"
def TJ2 : u_T := fun k => match k with
  | _ => ("", "", "", false)
def tyJ2 : Nat → FieldType := fun k => match k with
  | _ => .int
abbrev wsJ20 : List Cond := u_ws RJ2 TJ2 0
theorem nmJ2 : ∀ a, a < 0 → ∀ b, b < 0 → a ≠ b → (TJ2 a).2.1 ≠ (TJ2 b).2.1 := by decide +kernel
theorem tyJ2_ok : ∀ k, k < 0 → parseFieldDescriptor (TJ2 k).2.2.1 = some (tyJ2 k) := by decide +kernel
abbrev cJ2_getChar_3b067 : ByteArray := prog_17_method_5_code
def yJ2_getChar_3b067 : MethodName := ⟨RJ2, "getChar", "([BI)C"⟩
abbrev cJ2_length_9d52b : ByteArray := prog_17_method_6_code
def yJ2_length_9d52b : MethodName := ⟨RJ2, "length", "([B)I"⟩
abbrev cJ2_charAt_3b067 : ByteArray := prog_17_method_83_code
def yJ2_charAt_3b067 : MethodName := ⟨RJ2, "charAt", "([BI)C"⟩
abbrev cJ2_checkIndex_2214a : ByteArray := prog_17_method_91_code
def yJ2_checkIndex_2214a : MethodName := ⟨RJ2, "checkIndex", "(I[B)V"⟩
def RJ3 : String := "jdk/internal/util/Preconditions"
def TJ3 : u_T := fun k => match k with
  | _ => ("", "", "", false)
def tyJ3 : Nat → FieldType := fun k => match k with
  | _ => .int
abbrev wsJ30 : List Cond := u_ws RJ3 TJ3 0
theorem nmJ3 : ∀ a, a < 0 → ∀ b, b < 0 → a ≠ b → (TJ3 a).2.1 ≠ (TJ3 b).2.1 := by decide +kernel
theorem tyJ3_ok : ∀ k, k < 0 → parseFieldDescriptor (TJ3 k).2.2.1 = some (tyJ3 k) := by decide +kernel
abbrev cJ3_checkIndex_8e157 : ByteArray := prog_18_method_11_code
def yJ3_checkIndex_8e157 : MethodName := ⟨RJ3, "checkIndex", "(IILjava/util/function/BiFunction;)I"⟩
def RL : String := "PoemPagesLaw"
abbrev cL_law : ByteArray := code
def yL_law : MethodName := ⟨RL, "law", "([I)Z"⟩
theorem inJ9 : ∀ w ∈ wsJ90, w ∈ lw_tbl := by decide +kernel
theorem inJ0 : ∀ w ∈ wsJ00, w ∈ lw_tbl := by decide +kernel
theorem inJ1 : ∀ w ∈ wsJ10, w ∈ lw_tbl := by decide +kernel
theorem inJ2 : ∀ w ∈ wsJ20, w ∈ lw_tbl := by decide +kernel
theorem inJ3 : ∀ w ∈ wsJ30, w ∈ lw_tbl := by decide +kernel
abbrev vwCl : List vw_C := [(RX0, TX0, 2), (RX1, TX1, 9), (RX2, TX2, 4), (RX3, TX3, 5), (RX4, TX4, 5), (RX5, TX5, 3), (RX6, TX6, 9), (RX7, TX7, 3), (RX8, TX8, 2), (RX9, TX9, 5), (RX10, TX10, 5), (RX11, TX11, 26)]
/-! ===== END printed: names ===== -/
end
section
theorem dX0_init_0 : decode cX0_init 0 = .ok (.aload_n 0, 1) := by decide +kernel
theorem dX0_init_1 : decode cX0_init 1 = .ok (.invokespecial 3, 3) := by decide +kernel
theorem dX0_init_4 : decode cX0_init 4 = .ok (.aload_n 0, 1) := by decide +kernel
theorem dX0_init_5 : decode cX0_init 5 = .ok (.bipush 8, 2) := by decide +kernel
theorem dX0_init_7 : decode cX0_init 7 = .ok (.anewarray 9, 3) := by decide +kernel
theorem dX0_init_10 : decode cX0_init 10 = .ok (.putfield 11, 3) := by decide +kernel
theorem dX0_init_13 : decode cX0_init 13 = .ok (.aload_n 0, 1) := by decide +kernel
theorem dX0_init_14 : decode cX0_init 14 = .ok (.iconst 0, 1) := by decide +kernel
theorem dX0_init_15 : decode cX0_init 15 = .ok (.putfield 17, 3) := by decide +kernel
theorem dX0_init_18 : decode cX0_init 18 = .ok (.iconst 0, 1) := by decide +kernel
theorem dX0_init_19 : decode cX0_init 19 = .ok (.istore_n 1, 1) := by decide +kernel
theorem dX0_init_20 : decode cX0_init 20 = .ok (.iload_n 1, 1) := by decide +kernel
theorem dX0_init_21 : decode cX0_init 21 = .ok (.aload_n 0, 1) := by decide +kernel
theorem dX0_init_22 : decode cX0_init 22 = .ok (.getfield 11, 3) := by decide +kernel
theorem dX0_init_25 : decode cX0_init 25 = .ok (.arraylength, 1) := by decide +kernel
theorem dX0_init_26 : decode cX0_init 26 = .ok (.if_icmp .ge 22, 3) := by decide +kernel
theorem dX0_init_29 : decode cX0_init 29 = .ok (.aload_n 0, 1) := by decide +kernel
theorem dX0_init_30 : decode cX0_init 30 = .ok (.getfield 11, 3) := by decide +kernel
theorem dX0_init_33 : decode cX0_init 33 = .ok (.iload_n 1, 1) := by decide +kernel
theorem dX0_init_34 : decode cX0_init 34 = .ok (.new 9, 3) := by decide +kernel
theorem dX0_init_37 : decode cX0_init 37 = .ok (.dup, 1) := by decide +kernel
theorem dX0_init_38 : decode cX0_init 38 = .ok (.invokespecial 21, 3) := by decide +kernel
theorem dX0_init_41 : decode cX0_init 41 = .ok (.aastore, 1) := by decide +kernel
theorem dX0_init_42 : decode cX0_init 42 = .ok (.iinc 1 1, 3) := by decide +kernel
theorem dX0_init_45 : decode cX0_init 45 = .ok (.goto (-25), 3) := by decide +kernel
theorem dX0_init_48 : decode cX0_init 48 = .ok (.return_, 1) := by decide +kernel
theorem dX0_keepState_0 : decode cX0_keepState 0 = .ok (.aload_n 0, 1) := by decide +kernel
theorem dX0_keepState_1 : decode cX0_keepState 1 = .ok (.getfield 17, 3) := by decide +kernel
theorem dX0_keepState_4 : decode cX0_keepState 4 = .ok (.aload_n 0, 1) := by decide +kernel
theorem dX0_keepState_5 : decode cX0_keepState 5 = .ok (.getfield 11, 3) := by decide +kernel
theorem dX0_keepState_8 : decode cX0_keepState 8 = .ok (.arraylength, 1) := by decide +kernel
theorem dX0_keepState_9 : decode cX0_keepState 9 = .ok (.if_icmp .lt 7, 3) := by decide +kernel
theorem dX0_keepState_12 : decode cX0_keepState 12 = .ok (.aload_n 0, 1) := by decide +kernel
theorem dX0_keepState_13 : decode cX0_keepState 13 = .ok (.invokevirtual 22, 3) := by decide +kernel
theorem dX0_keepState_16 : decode cX0_keepState 16 = .ok (.aload_n 0, 1) := by decide +kernel
theorem dX0_keepState_17 : decode cX0_keepState 17 = .ok (.aload_n 0, 1) := by decide +kernel
theorem dX0_keepState_18 : decode cX0_keepState 18 = .ok (.getfield 17, 3) := by decide +kernel
theorem dX0_keepState_21 : decode cX0_keepState 21 = .ok (.invokevirtual 25, 3) := by decide +kernel
theorem dX0_keepState_24 : decode cX0_keepState 24 = .ok (.astore_n 2, 1) := by decide +kernel
theorem dX0_keepState_25 : decode cX0_keepState 25 = .ok (.aload_n 2, 1) := by decide +kernel
theorem dX0_keepState_26 : decode cX0_keepState 26 = .ok (.ifnull 18, 3) := by decide +kernel
theorem dX0_keepState_29 : decode cX0_keepState 29 = .ok (.aload_n 2, 1) := by decide +kernel
theorem dX0_keepState_30 : decode cX0_keepState 30 = .ok (.aload_n 1, 1) := by decide +kernel
theorem dX0_keepState_31 : decode cX0_keepState 31 = .ok (.invokevirtual 29, 3) := by decide +kernel
theorem dX0_keepState_34 : decode cX0_keepState 34 = .ok (.aload_n 0, 1) := by decide +kernel
theorem dX0_keepState_35 : decode cX0_keepState 35 = .ok (.dup, 1) := by decide +kernel
theorem dX0_keepState_36 : decode cX0_keepState 36 = .ok (.getfield 17, 3) := by decide +kernel
theorem dX0_keepState_39 : decode cX0_keepState 39 = .ok (.iconst 1, 1) := by decide +kernel
theorem dX0_keepState_40 : decode cX0_keepState 40 = .ok (.iadd, 1) := by decide +kernel
theorem dX0_keepState_41 : decode cX0_keepState 41 = .ok (.putfield 17, 3) := by decide +kernel
theorem dX0_keepState_44 : decode cX0_keepState 44 = .ok (.return_, 1) := by decide +kernel
theorem dX0_bringBack_0 : decode cX0_bringBack 0 = .ok (.aload_n 0, 1) := by decide +kernel
theorem dX0_bringBack_1 : decode cX0_bringBack 1 = .ok (.aload_n 0, 1) := by decide +kernel
theorem dX0_bringBack_2 : decode cX0_bringBack 2 = .ok (.getfield 17, 3) := by decide +kernel
theorem dX0_bringBack_5 : decode cX0_bringBack 5 = .ok (.iconst 1, 1) := by decide +kernel
theorem dX0_bringBack_6 : decode cX0_bringBack 6 = .ok (.isub, 1) := by decide +kernel
theorem dX0_bringBack_7 : decode cX0_bringBack 7 = .ok (.invokevirtual 25, 3) := by decide +kernel
theorem dX0_bringBack_10 : decode cX0_bringBack 10 = .ok (.astore_n 2, 1) := by decide +kernel
theorem dX0_bringBack_11 : decode cX0_bringBack 11 = .ok (.aload_n 2, 1) := by decide +kernel
theorem dX0_bringBack_12 : decode cX0_bringBack 12 = .ok (.ifnull 18, 3) := by decide +kernel
theorem dX0_bringBack_15 : decode cX0_bringBack 15 = .ok (.aload_n 1, 1) := by decide +kernel
theorem dX0_bringBack_16 : decode cX0_bringBack 16 = .ok (.aload_n 2, 1) := by decide +kernel
theorem dX0_bringBack_17 : decode cX0_bringBack 17 = .ok (.invokevirtual 29, 3) := by decide +kernel
theorem dX0_bringBack_20 : decode cX0_bringBack 20 = .ok (.aload_n 0, 1) := by decide +kernel
theorem dX0_bringBack_21 : decode cX0_bringBack 21 = .ok (.dup, 1) := by decide +kernel
theorem dX0_bringBack_22 : decode cX0_bringBack 22 = .ok (.getfield 17, 3) := by decide +kernel
theorem dX0_bringBack_25 : decode cX0_bringBack 25 = .ok (.iconst 1, 1) := by decide +kernel
theorem dX0_bringBack_26 : decode cX0_bringBack 26 = .ok (.isub, 1) := by decide +kernel
theorem dX0_bringBack_27 : decode cX0_bringBack 27 = .ok (.putfield 17, 3) := by decide +kernel
theorem dX0_bringBack_30 : decode cX0_bringBack 30 = .ok (.return_, 1) := by decide +kernel
theorem dX0_dropOldest_0 : decode cX0_dropOldest 0 = .ok (.aload_n 0, 1) := by decide +kernel
theorem dX0_dropOldest_1 : decode cX0_dropOldest 1 = .ok (.iconst 0, 1) := by decide +kernel
theorem dX0_dropOldest_2 : decode cX0_dropOldest 2 = .ok (.invokevirtual 25, 3) := by decide +kernel
theorem dX0_dropOldest_5 : decode cX0_dropOldest 5 = .ok (.astore_n 1, 1) := by decide +kernel
theorem dX0_dropOldest_6 : decode cX0_dropOldest 6 = .ok (.iconst 1, 1) := by decide +kernel
theorem dX0_dropOldest_7 : decode cX0_dropOldest 7 = .ok (.istore_n 2, 1) := by decide +kernel
theorem dX0_dropOldest_8 : decode cX0_dropOldest 8 = .ok (.iload_n 2, 1) := by decide +kernel
theorem dX0_dropOldest_9 : decode cX0_dropOldest 9 = .ok (.aload_n 0, 1) := by decide +kernel
theorem dX0_dropOldest_10 : decode cX0_dropOldest 10 = .ok (.getfield 11, 3) := by decide +kernel
theorem dX0_dropOldest_13 : decode cX0_dropOldest 13 = .ok (.arraylength, 1) := by decide +kernel
theorem dX0_dropOldest_14 : decode cX0_dropOldest 14 = .ok (.if_icmp .ge 23, 3) := by decide +kernel
theorem dX0_dropOldest_17 : decode cX0_dropOldest 17 = .ok (.aload_n 0, 1) := by decide +kernel
theorem dX0_dropOldest_18 : decode cX0_dropOldest 18 = .ok (.getfield 11, 3) := by decide +kernel
theorem dX0_dropOldest_21 : decode cX0_dropOldest 21 = .ok (.iload_n 2, 1) := by decide +kernel
theorem dX0_dropOldest_22 : decode cX0_dropOldest 22 = .ok (.iconst 1, 1) := by decide +kernel
theorem dX0_dropOldest_23 : decode cX0_dropOldest 23 = .ok (.isub, 1) := by decide +kernel
theorem dX0_dropOldest_24 : decode cX0_dropOldest 24 = .ok (.aload_n 0, 1) := by decide +kernel
theorem dX0_dropOldest_25 : decode cX0_dropOldest 25 = .ok (.getfield 11, 3) := by decide +kernel
theorem dX0_dropOldest_28 : decode cX0_dropOldest 28 = .ok (.iload_n 2, 1) := by decide +kernel
theorem dX0_dropOldest_29 : decode cX0_dropOldest 29 = .ok (.aaload, 1) := by decide +kernel
theorem dX0_dropOldest_30 : decode cX0_dropOldest 30 = .ok (.aastore, 1) := by decide +kernel
theorem dX0_dropOldest_31 : decode cX0_dropOldest 31 = .ok (.iinc 2 1, 3) := by decide +kernel
theorem dX0_dropOldest_34 : decode cX0_dropOldest 34 = .ok (.goto (-26), 3) := by decide +kernel
theorem dX0_dropOldest_37 : decode cX0_dropOldest 37 = .ok (.aload_n 0, 1) := by decide +kernel
theorem dX0_dropOldest_38 : decode cX0_dropOldest 38 = .ok (.getfield 11, 3) := by decide +kernel
theorem dX0_dropOldest_41 : decode cX0_dropOldest 41 = .ok (.arraylength, 1) := by decide +kernel
theorem dX0_dropOldest_42 : decode cX0_dropOldest 42 = .ok (.ifCond .le 16, 3) := by decide +kernel
theorem dX0_dropOldest_45 : decode cX0_dropOldest 45 = .ok (.aload_n 0, 1) := by decide +kernel
theorem dX0_dropOldest_46 : decode cX0_dropOldest 46 = .ok (.getfield 11, 3) := by decide +kernel
theorem dX0_dropOldest_49 : decode cX0_dropOldest 49 = .ok (.aload_n 0, 1) := by decide +kernel
theorem dX0_dropOldest_50 : decode cX0_dropOldest 50 = .ok (.getfield 11, 3) := by decide +kernel
theorem dX0_dropOldest_53 : decode cX0_dropOldest 53 = .ok (.arraylength, 1) := by decide +kernel
theorem dX0_dropOldest_54 : decode cX0_dropOldest 54 = .ok (.iconst 1, 1) := by decide +kernel
theorem dX0_dropOldest_55 : decode cX0_dropOldest 55 = .ok (.isub, 1) := by decide +kernel
theorem dX0_dropOldest_56 : decode cX0_dropOldest 56 = .ok (.aload_n 1, 1) := by decide +kernel
theorem dX0_dropOldest_57 : decode cX0_dropOldest 57 = .ok (.aastore, 1) := by decide +kernel
theorem dX0_dropOldest_58 : decode cX0_dropOldest 58 = .ok (.aload_n 0, 1) := by decide +kernel
theorem dX0_dropOldest_59 : decode cX0_dropOldest 59 = .ok (.dup, 1) := by decide +kernel
theorem dX0_dropOldest_60 : decode cX0_dropOldest 60 = .ok (.getfield 17, 3) := by decide +kernel
theorem dX0_dropOldest_63 : decode cX0_dropOldest 63 = .ok (.iconst 1, 1) := by decide +kernel
theorem dX0_dropOldest_64 : decode cX0_dropOldest 64 = .ok (.isub, 1) := by decide +kernel
theorem dX0_dropOldest_65 : decode cX0_dropOldest 65 = .ok (.putfield 17, 3) := by decide +kernel
theorem dX0_dropOldest_68 : decode cX0_dropOldest 68 = .ok (.return_, 1) := by decide +kernel
theorem dX0_stateAt_0 : decode cX0_stateAt 0 = .ok (.iload_n 1, 1) := by decide +kernel
theorem dX0_stateAt_1 : decode cX0_stateAt 1 = .ok (.ifCond .lt 12, 3) := by decide +kernel
theorem dX0_stateAt_4 : decode cX0_stateAt 4 = .ok (.iload_n 1, 1) := by decide +kernel
theorem dX0_stateAt_5 : decode cX0_stateAt 5 = .ok (.aload_n 0, 1) := by decide +kernel
theorem dX0_stateAt_6 : decode cX0_stateAt 6 = .ok (.getfield 11, 3) := by decide +kernel
theorem dX0_stateAt_9 : decode cX0_stateAt 9 = .ok (.arraylength, 1) := by decide +kernel
theorem dX0_stateAt_10 : decode cX0_stateAt 10 = .ok (.if_icmp .lt 7, 3) := by decide +kernel
theorem dX0_stateAt_13 : decode cX0_stateAt 13 = .ok (.aconst_null, 1) := by decide +kernel
theorem dX0_stateAt_14 : decode cX0_stateAt 14 = .ok (.goto 9, 3) := by decide +kernel
theorem dX0_stateAt_17 : decode cX0_stateAt 17 = .ok (.aload_n 0, 1) := by decide +kernel
theorem dX0_stateAt_18 : decode cX0_stateAt 18 = .ok (.getfield 11, 3) := by decide +kernel
theorem dX0_stateAt_21 : decode cX0_stateAt 21 = .ok (.iload_n 1, 1) := by decide +kernel
theorem dX0_stateAt_22 : decode cX0_stateAt 22 = .ok (.aaload, 1) := by decide +kernel
theorem dX0_stateAt_23 : decode cX0_stateAt 23 = .ok (.areturn, 1) := by decide +kernel
theorem dX1_init_0 : decode cX1_init 0 = .ok (.aload_n 0, 1) := by decide +kernel
theorem dX1_init_1 : decode cX1_init 1 = .ok (.invokespecial 3, 3) := by decide +kernel
theorem dX1_init_4 : decode cX1_init 4 = .ok (.aload_n 0, 1) := by decide +kernel
theorem dX1_init_5 : decode cX1_init 5 = .ok (.sipush 480, 3) := by decide +kernel
theorem dX1_init_8 : decode cX1_init 8 = .ok (.anewarray 9, 3) := by decide +kernel
theorem dX1_init_11 : decode cX1_init 11 = .ok (.putfield 11, 3) := by decide +kernel
theorem dX1_init_14 : decode cX1_init 14 = .ok (.aload_n 0, 1) := by decide +kernel
theorem dX1_init_15 : decode cX1_init 15 = .ok (.bipush 24, 2) := by decide +kernel
theorem dX1_init_17 : decode cX1_init 17 = .ok (.anewarray 17, 3) := by decide +kernel
theorem dX1_init_20 : decode cX1_init 20 = .ok (.putfield 19, 3) := by decide +kernel
theorem dX1_init_23 : decode cX1_init 23 = .ok (.aload_n 0, 1) := by decide +kernel
theorem dX1_init_24 : decode cX1_init 24 = .ok (.bipush 24, 2) := by decide +kernel
theorem dX1_init_26 : decode cX1_init 26 = .ok (.anewarray 23, 3) := by decide +kernel
theorem dX1_init_29 : decode cX1_init 29 = .ok (.putfield 25, 3) := by decide +kernel
theorem dX1_init_32 : decode cX1_init 32 = .ok (.aload_n 0, 1) := by decide +kernel
theorem dX1_init_33 : decode cX1_init 33 = .ok (.sipush 480, 3) := by decide +kernel
theorem dX1_init_36 : decode cX1_init 36 = .ok (.anewarray 29, 3) := by decide +kernel
theorem dX1_init_39 : decode cX1_init 39 = .ok (.putfield 31, 3) := by decide +kernel
theorem dX1_init_42 : decode cX1_init 42 = .ok (.aload_n 0, 1) := by decide +kernel
theorem dX1_init_43 : decode cX1_init 43 = .ok (.iconst 0, 1) := by decide +kernel
theorem dX1_init_44 : decode cX1_init 44 = .ok (.putfield 35, 3) := by decide +kernel
theorem dX1_init_47 : decode cX1_init 47 = .ok (.aload_n 0, 1) := by decide +kernel
theorem dX1_init_48 : decode cX1_init 48 = .ok (.iconst 0, 1) := by decide +kernel
theorem dX1_init_49 : decode cX1_init 49 = .ok (.putfield 39, 3) := by decide +kernel
theorem dX1_init_52 : decode cX1_init 52 = .ok (.aload_n 0, 1) := by decide +kernel
theorem dX1_init_53 : decode cX1_init 53 = .ok (.iconst 0, 1) := by decide +kernel
theorem dX1_init_54 : decode cX1_init 54 = .ok (.putfield 42, 3) := by decide +kernel
theorem dX1_init_57 : decode cX1_init 57 = .ok (.aload_n 0, 1) := by decide +kernel
theorem dX1_init_58 : decode cX1_init 58 = .ok (.iconst 0, 1) := by decide +kernel
theorem dX1_init_59 : decode cX1_init 59 = .ok (.putfield 45, 3) := by decide +kernel
theorem dX1_init_62 : decode cX1_init 62 = .ok (.aload_n 0, 1) := by decide +kernel
theorem dX1_init_63 : decode cX1_init 63 = .ok (.iconst 0, 1) := by decide +kernel
theorem dX1_init_64 : decode cX1_init 64 = .ok (.putfield 48, 3) := by decide +kernel
theorem dX1_init_67 : decode cX1_init 67 = .ok (.return_, 1) := by decide +kernel
theorem dX1_rowAt_0 : decode cX1_rowAt 0 = .ok (.iload_n 1, 1) := by decide +kernel
theorem dX1_rowAt_1 : decode cX1_rowAt 1 = .ok (.ifCond .lt 20, 3) := by decide +kernel
theorem dX1_rowAt_4 : decode cX1_rowAt 4 = .ok (.iload_n 1, 1) := by decide +kernel
theorem dX1_rowAt_5 : decode cX1_rowAt 5 = .ok (.aload_n 0, 1) := by decide +kernel
theorem dX1_rowAt_6 : decode cX1_rowAt 6 = .ok (.getfield 35, 3) := by decide +kernel
theorem dX1_rowAt_9 : decode cX1_rowAt 9 = .ok (.if_icmp .ge 12, 3) := by decide +kernel
theorem dX1_rowAt_12 : decode cX1_rowAt 12 = .ok (.iload_n 1, 1) := by decide +kernel
theorem dX1_rowAt_13 : decode cX1_rowAt 13 = .ok (.aload_n 0, 1) := by decide +kernel
theorem dX1_rowAt_14 : decode cX1_rowAt 14 = .ok (.getfield 11, 3) := by decide +kernel
theorem dX1_rowAt_17 : decode cX1_rowAt 17 = .ok (.arraylength, 1) := by decide +kernel
theorem dX1_rowAt_18 : decode cX1_rowAt 18 = .ok (.if_icmp .lt 7, 3) := by decide +kernel
theorem dX1_rowAt_21 : decode cX1_rowAt 21 = .ok (.aconst_null, 1) := by decide +kernel
theorem dX1_rowAt_22 : decode cX1_rowAt 22 = .ok (.goto 9, 3) := by decide +kernel
theorem dX1_rowAt_25 : decode cX1_rowAt 25 = .ok (.aload_n 0, 1) := by decide +kernel
theorem dX1_rowAt_26 : decode cX1_rowAt 26 = .ok (.getfield 11, 3) := by decide +kernel
theorem dX1_rowAt_29 : decode cX1_rowAt 29 = .ok (.iload_n 1, 1) := by decide +kernel
theorem dX1_rowAt_30 : decode cX1_rowAt 30 = .ok (.aaload, 1) := by decide +kernel
theorem dX1_rowAt_31 : decode cX1_rowAt 31 = .ok (.areturn, 1) := by decide +kernel
theorem dX1_spanAt_0 : decode cX1_spanAt 0 = .ok (.iload_n 1, 1) := by decide +kernel
theorem dX1_spanAt_1 : decode cX1_spanAt 1 = .ok (.ifCond .lt 20, 3) := by decide +kernel
theorem dX1_spanAt_4 : decode cX1_spanAt 4 = .ok (.iload_n 1, 1) := by decide +kernel
theorem dX1_spanAt_5 : decode cX1_spanAt 5 = .ok (.aload_n 0, 1) := by decide +kernel
theorem dX1_spanAt_6 : decode cX1_spanAt 6 = .ok (.getfield 45, 3) := by decide +kernel
theorem dX1_spanAt_9 : decode cX1_spanAt 9 = .ok (.if_icmp .ge 12, 3) := by decide +kernel
theorem dX1_spanAt_12 : decode cX1_spanAt 12 = .ok (.iload_n 1, 1) := by decide +kernel
theorem dX1_spanAt_13 : decode cX1_spanAt 13 = .ok (.aload_n 0, 1) := by decide +kernel
theorem dX1_spanAt_14 : decode cX1_spanAt 14 = .ok (.getfield 19, 3) := by decide +kernel
theorem dX1_spanAt_17 : decode cX1_spanAt 17 = .ok (.arraylength, 1) := by decide +kernel
theorem dX1_spanAt_18 : decode cX1_spanAt 18 = .ok (.if_icmp .lt 7, 3) := by decide +kernel
theorem dX1_spanAt_21 : decode cX1_spanAt 21 = .ok (.aconst_null, 1) := by decide +kernel
theorem dX1_spanAt_22 : decode cX1_spanAt 22 = .ok (.goto 9, 3) := by decide +kernel
theorem dX1_spanAt_25 : decode cX1_spanAt 25 = .ok (.aload_n 0, 1) := by decide +kernel
theorem dX1_spanAt_26 : decode cX1_spanAt 26 = .ok (.getfield 19, 3) := by decide +kernel
theorem dX1_spanAt_29 : decode cX1_spanAt 29 = .ok (.iload_n 1, 1) := by decide +kernel
theorem dX1_spanAt_30 : decode cX1_spanAt 30 = .ok (.aaload, 1) := by decide +kernel
theorem dX1_spanAt_31 : decode cX1_spanAt 31 = .ok (.areturn, 1) := by decide +kernel
theorem dX1_stanzaAt_0 : decode cX1_stanzaAt 0 = .ok (.iload_n 1, 1) := by decide +kernel
theorem dX1_stanzaAt_1 : decode cX1_stanzaAt 1 = .ok (.ifCond .lt 20, 3) := by decide +kernel
theorem dX1_stanzaAt_4 : decode cX1_stanzaAt 4 = .ok (.iload_n 1, 1) := by decide +kernel
theorem dX1_stanzaAt_5 : decode cX1_stanzaAt 5 = .ok (.aload_n 0, 1) := by decide +kernel
theorem dX1_stanzaAt_6 : decode cX1_stanzaAt 6 = .ok (.getfield 39, 3) := by decide +kernel
theorem dX1_stanzaAt_9 : decode cX1_stanzaAt 9 = .ok (.if_icmp .ge 12, 3) := by decide +kernel
theorem dX1_stanzaAt_12 : decode cX1_stanzaAt 12 = .ok (.iload_n 1, 1) := by decide +kernel
theorem dX1_stanzaAt_13 : decode cX1_stanzaAt 13 = .ok (.aload_n 0, 1) := by decide +kernel
theorem dX1_stanzaAt_14 : decode cX1_stanzaAt 14 = .ok (.getfield 25, 3) := by decide +kernel
theorem dX1_stanzaAt_17 : decode cX1_stanzaAt 17 = .ok (.arraylength, 1) := by decide +kernel
theorem dX1_stanzaAt_18 : decode cX1_stanzaAt 18 = .ok (.if_icmp .lt 7, 3) := by decide +kernel
theorem dX1_stanzaAt_21 : decode cX1_stanzaAt 21 = .ok (.aconst_null, 1) := by decide +kernel
theorem dX1_stanzaAt_22 : decode cX1_stanzaAt 22 = .ok (.goto 9, 3) := by decide +kernel
theorem dX1_stanzaAt_25 : decode cX1_stanzaAt 25 = .ok (.aload_n 0, 1) := by decide +kernel
theorem dX1_stanzaAt_26 : decode cX1_stanzaAt 26 = .ok (.getfield 25, 3) := by decide +kernel
theorem dX1_stanzaAt_29 : decode cX1_stanzaAt 29 = .ok (.iload_n 1, 1) := by decide +kernel
theorem dX1_stanzaAt_30 : decode cX1_stanzaAt 30 = .ok (.aaload, 1) := by decide +kernel
theorem dX1_stanzaAt_31 : decode cX1_stanzaAt 31 = .ok (.areturn, 1) := by decide +kernel
theorem dX1_pageAt_0 : decode cX1_pageAt 0 = .ok (.iload_n 1, 1) := by decide +kernel
theorem dX1_pageAt_1 : decode cX1_pageAt 1 = .ok (.ifCond .lt 20, 3) := by decide +kernel
theorem dX1_pageAt_4 : decode cX1_pageAt 4 = .ok (.iload_n 1, 1) := by decide +kernel
theorem dX1_pageAt_5 : decode cX1_pageAt 5 = .ok (.aload_n 0, 1) := by decide +kernel
theorem dX1_pageAt_6 : decode cX1_pageAt 6 = .ok (.getfield 42, 3) := by decide +kernel
theorem dX1_pageAt_9 : decode cX1_pageAt 9 = .ok (.if_icmp .ge 12, 3) := by decide +kernel
theorem dX1_pageAt_12 : decode cX1_pageAt 12 = .ok (.iload_n 1, 1) := by decide +kernel
theorem dX1_pageAt_13 : decode cX1_pageAt 13 = .ok (.aload_n 0, 1) := by decide +kernel
theorem dX1_pageAt_14 : decode cX1_pageAt 14 = .ok (.getfield 31, 3) := by decide +kernel
theorem dX1_pageAt_17 : decode cX1_pageAt 17 = .ok (.arraylength, 1) := by decide +kernel
theorem dX1_pageAt_18 : decode cX1_pageAt 18 = .ok (.if_icmp .lt 7, 3) := by decide +kernel
theorem dX1_pageAt_21 : decode cX1_pageAt 21 = .ok (.aconst_null, 1) := by decide +kernel
theorem dX1_pageAt_22 : decode cX1_pageAt 22 = .ok (.goto 9, 3) := by decide +kernel
theorem dX1_pageAt_25 : decode cX1_pageAt 25 = .ok (.aload_n 0, 1) := by decide +kernel
theorem dX1_pageAt_26 : decode cX1_pageAt 26 = .ok (.getfield 31, 3) := by decide +kernel
theorem dX1_pageAt_29 : decode cX1_pageAt 29 = .ok (.iload_n 1, 1) := by decide +kernel
theorem dX1_pageAt_30 : decode cX1_pageAt 30 = .ok (.aaload, 1) := by decide +kernel
theorem dX1_pageAt_31 : decode cX1_pageAt 31 = .ok (.areturn, 1) := by decide +kernel
theorem dX1_rowAtPlace_0 : decode cX1_rowAtPlace 0 = .ok (.aload_n 1, 1) := by decide +kernel
theorem dX1_rowAtPlace_1 : decode cX1_rowAtPlace 1 = .ok (.getfield 51, 3) := by decide +kernel
theorem dX1_rowAtPlace_4 : decode cX1_rowAtPlace 4 = .ok (.istore_n 3, 1) := by decide +kernel
theorem dX1_rowAtPlace_5 : decode cX1_rowAtPlace 5 = .ok (.iload_n 3, 1) := by decide +kernel
theorem dX1_rowAtPlace_6 : decode cX1_rowAtPlace 6 = .ok (.aload_n 1, 1) := by decide +kernel
theorem dX1_rowAtPlace_7 : decode cX1_rowAtPlace 7 = .ok (.getfield 51, 3) := by decide +kernel
theorem dX1_rowAtPlace_10 : decode cX1_rowAtPlace 10 = .ok (.aload_n 1, 1) := by decide +kernel
theorem dX1_rowAtPlace_11 : decode cX1_rowAtPlace 11 = .ok (.getfield 54, 3) := by decide +kernel
theorem dX1_rowAtPlace_14 : decode cX1_rowAtPlace 14 = .ok (.iadd, 1) := by decide +kernel
theorem dX1_rowAtPlace_15 : decode cX1_rowAtPlace 15 = .ok (.if_icmp .ge 33, 3) := by decide +kernel
theorem dX1_rowAtPlace_18 : decode cX1_rowAtPlace 18 = .ok (.aload_n 0, 1) := by decide +kernel
theorem dX1_rowAtPlace_19 : decode cX1_rowAtPlace 19 = .ok (.iload_n 3, 1) := by decide +kernel
theorem dX1_rowAtPlace_20 : decode cX1_rowAtPlace 20 = .ok (.invokevirtual 56, 3) := by decide +kernel
theorem dX1_rowAtPlace_23 : decode cX1_rowAtPlace 23 = .ok (.astore 4, 2) := by decide +kernel
theorem dX1_rowAtPlace_25 : decode cX1_rowAtPlace 25 = .ok (.aload 4, 2) := by decide +kernel
theorem dX1_rowAtPlace_27 : decode cX1_rowAtPlace 27 = .ok (.ifnull 15, 3) := by decide +kernel
theorem dX1_rowAtPlace_30 : decode cX1_rowAtPlace 30 = .ok (.aload 4, 2) := by decide +kernel
theorem dX1_rowAtPlace_32 : decode cX1_rowAtPlace 32 = .ok (.getfield 60, 3) := by decide +kernel
theorem dX1_rowAtPlace_35 : decode cX1_rowAtPlace 35 = .ok (.iload_n 2, 1) := by decide +kernel
theorem dX1_rowAtPlace_36 : decode cX1_rowAtPlace 36 = .ok (.if_icmp .ne 6, 3) := by decide +kernel
theorem dX1_rowAtPlace_39 : decode cX1_rowAtPlace 39 = .ok (.aload 4, 2) := by decide +kernel
theorem dX1_rowAtPlace_41 : decode cX1_rowAtPlace 41 = .ok (.areturn, 1) := by decide +kernel
theorem dX1_rowAtPlace_42 : decode cX1_rowAtPlace 42 = .ok (.iinc 3 1, 3) := by decide +kernel
theorem dX1_rowAtPlace_45 : decode cX1_rowAtPlace 45 = .ok (.goto (-40), 3) := by decide +kernel
theorem dX1_rowAtPlace_48 : decode cX1_rowAtPlace 48 = .ok (.aconst_null, 1) := by decide +kernel
theorem dX1_rowAtPlace_49 : decode cX1_rowAtPlace 49 = .ok (.areturn, 1) := by decide +kernel
theorem dX1_runOvers_0 : decode cX1_runOvers 0 = .ok (.aload_n 0, 1) := by decide +kernel
theorem dX1_runOvers_1 : decode cX1_runOvers 1 = .ok (.getfield 35, 3) := by decide +kernel
theorem dX1_runOvers_4 : decode cX1_runOvers 4 = .ok (.aload_n 0, 1) := by decide +kernel
theorem dX1_runOvers_5 : decode cX1_runOvers 5 = .ok (.getfield 45, 3) := by decide +kernel
theorem dX1_runOvers_8 : decode cX1_runOvers 8 = .ok (.isub, 1) := by decide +kernel
theorem dX1_runOvers_9 : decode cX1_runOvers 9 = .ok (.ireturn, 1) := by decide +kernel
theorem dX1_cuts_0 : decode cX1_cuts 0 = .ok (.iconst 0, 1) := by decide +kernel
theorem dX1_cuts_1 : decode cX1_cuts 1 = .ok (.istore_n 1, 1) := by decide +kernel
theorem dX1_cuts_2 : decode cX1_cuts 2 = .ok (.iconst 0, 1) := by decide +kernel
theorem dX1_cuts_3 : decode cX1_cuts 3 = .ok (.istore_n 2, 1) := by decide +kernel
theorem dX1_cuts_4 : decode cX1_cuts 4 = .ok (.iload_n 2, 1) := by decide +kernel
theorem dX1_cuts_5 : decode cX1_cuts 5 = .ok (.aload_n 0, 1) := by decide +kernel
theorem dX1_cuts_6 : decode cX1_cuts 6 = .ok (.getfield 35, 3) := by decide +kernel
theorem dX1_cuts_9 : decode cX1_cuts 9 = .ok (.if_icmp .ge 37, 3) := by decide +kernel
theorem dX1_cuts_12 : decode cX1_cuts 12 = .ok (.aload_n 0, 1) := by decide +kernel
theorem dX1_cuts_13 : decode cX1_cuts 13 = .ok (.iload_n 2, 1) := by decide +kernel
theorem dX1_cuts_14 : decode cX1_cuts 14 = .ok (.invokevirtual 56, 3) := by decide +kernel
theorem dX1_cuts_17 : decode cX1_cuts 17 = .ok (.astore_n 3, 1) := by decide +kernel
theorem dX1_cuts_18 : decode cX1_cuts 18 = .ok (.iload_n 1, 1) := by decide +kernel
theorem dX1_cuts_19 : decode cX1_cuts 19 = .ok (.aload_n 3, 1) := by decide +kernel
theorem dX1_cuts_20 : decode cX1_cuts 20 = .ok (.ifnull 14, 3) := by decide +kernel
theorem dX1_cuts_23 : decode cX1_cuts 23 = .ok (.aload_n 3, 1) := by decide +kernel
theorem dX1_cuts_24 : decode cX1_cuts 24 = .ok (.getfield 63, 3) := by decide +kernel
theorem dX1_cuts_27 : decode cX1_cuts 27 = .ok (.ifCond .eq 7, 3) := by decide +kernel
theorem dX1_cuts_30 : decode cX1_cuts 30 = .ok (.iconst 1, 1) := by decide +kernel
theorem dX1_cuts_31 : decode cX1_cuts 31 = .ok (.goto 4, 3) := by decide +kernel
theorem dX1_cuts_34 : decode cX1_cuts 34 = .ok (.iconst 0, 1) := by decide +kernel
theorem dX1_cuts_35 : decode cX1_cuts 35 = .ok (.invokestatic 67, 3) := by decide +kernel
theorem dX1_cuts_38 : decode cX1_cuts 38 = .ok (.iadd, 1) := by decide +kernel
theorem dX1_cuts_39 : decode cX1_cuts 39 = .ok (.istore_n 1, 1) := by decide +kernel
theorem dX1_cuts_40 : decode cX1_cuts 40 = .ok (.iinc 2 1, 3) := by decide +kernel
theorem dX1_cuts_43 : decode cX1_cuts 43 = .ok (.goto (-39), 3) := by decide +kernel
theorem dX1_cuts_46 : decode cX1_cuts 46 = .ok (.iload_n 1, 1) := by decide +kernel
theorem dX1_cuts_47 : decode cX1_cuts 47 = .ok (.ireturn, 1) := by decide +kernel
theorem dX1_markedPages_0 : decode cX1_markedPages 0 = .ok (.iconst 0, 1) := by decide +kernel
theorem dX1_markedPages_1 : decode cX1_markedPages 1 = .ok (.istore_n 1, 1) := by decide +kernel
theorem dX1_markedPages_2 : decode cX1_markedPages 2 = .ok (.iconst 0, 1) := by decide +kernel
theorem dX1_markedPages_3 : decode cX1_markedPages 3 = .ok (.istore_n 2, 1) := by decide +kernel
theorem dX1_markedPages_4 : decode cX1_markedPages 4 = .ok (.iload_n 2, 1) := by decide +kernel
theorem dX1_markedPages_5 : decode cX1_markedPages 5 = .ok (.aload_n 0, 1) := by decide +kernel
theorem dX1_markedPages_6 : decode cX1_markedPages 6 = .ok (.getfield 42, 3) := by decide +kernel
theorem dX1_markedPages_9 : decode cX1_markedPages 9 = .ok (.if_icmp .ge 37, 3) := by decide +kernel
theorem dX1_markedPages_12 : decode cX1_markedPages 12 = .ok (.aload_n 0, 1) := by decide +kernel
theorem dX1_markedPages_13 : decode cX1_markedPages 13 = .ok (.iload_n 2, 1) := by decide +kernel
theorem dX1_markedPages_14 : decode cX1_markedPages 14 = .ok (.invokevirtual 71, 3) := by decide +kernel
theorem dX1_markedPages_17 : decode cX1_markedPages 17 = .ok (.astore_n 3, 1) := by decide +kernel
theorem dX1_markedPages_18 : decode cX1_markedPages 18 = .ok (.iload_n 1, 1) := by decide +kernel
theorem dX1_markedPages_19 : decode cX1_markedPages 19 = .ok (.aload_n 3, 1) := by decide +kernel
theorem dX1_markedPages_20 : decode cX1_markedPages 20 = .ok (.ifnull 14, 3) := by decide +kernel
theorem dX1_markedPages_23 : decode cX1_markedPages 23 = .ok (.aload_n 3, 1) := by decide +kernel
theorem dX1_markedPages_24 : decode cX1_markedPages 24 = .ok (.getfield 75, 3) := by decide +kernel
theorem dX1_markedPages_27 : decode cX1_markedPages 27 = .ok (.ifCond .eq 7, 3) := by decide +kernel
theorem dX1_markedPages_30 : decode cX1_markedPages 30 = .ok (.iconst 1, 1) := by decide +kernel
theorem dX1_markedPages_31 : decode cX1_markedPages 31 = .ok (.goto 4, 3) := by decide +kernel
theorem dX1_markedPages_34 : decode cX1_markedPages 34 = .ok (.iconst 0, 1) := by decide +kernel
theorem dX1_markedPages_35 : decode cX1_markedPages 35 = .ok (.invokestatic 67, 3) := by decide +kernel
theorem dX1_markedPages_38 : decode cX1_markedPages 38 = .ok (.iadd, 1) := by decide +kernel
theorem dX1_markedPages_39 : decode cX1_markedPages 39 = .ok (.istore_n 1, 1) := by decide +kernel
theorem dX1_markedPages_40 : decode cX1_markedPages 40 = .ok (.iinc 2 1, 3) := by decide +kernel
theorem dX1_markedPages_43 : decode cX1_markedPages 43 = .ok (.goto (-39), 3) := by decide +kernel
theorem dX1_markedPages_46 : decode cX1_markedPages 46 = .ok (.iload_n 1, 1) := by decide +kernel
theorem dX1_markedPages_47 : decode cX1_markedPages 47 = .ok (.ireturn, 1) := by decide +kernel
theorem dX1_lastNumber_0 : decode cX1_lastNumber 0 = .ok (.aload_n 0, 1) := by decide +kernel
theorem dX1_lastNumber_1 : decode cX1_lastNumber 1 = .ok (.aload_n 0, 1) := by decide +kernel
theorem dX1_lastNumber_2 : decode cX1_lastNumber 2 = .ok (.getfield 45, 3) := by decide +kernel
theorem dX1_lastNumber_5 : decode cX1_lastNumber 5 = .ok (.iconst 1, 1) := by decide +kernel
theorem dX1_lastNumber_6 : decode cX1_lastNumber 6 = .ok (.isub, 1) := by decide +kernel
theorem dX1_lastNumber_7 : decode cX1_lastNumber 7 = .ok (.invokevirtual 78, 3) := by decide +kernel
theorem dX1_lastNumber_10 : decode cX1_lastNumber 10 = .ok (.astore_n 1, 1) := by decide +kernel
theorem dX1_lastNumber_11 : decode cX1_lastNumber 11 = .ok (.aload_n 1, 1) := by decide +kernel
theorem dX1_lastNumber_12 : decode cX1_lastNumber 12 = .ok (.ifnonnull 7, 3) := by decide +kernel
theorem dX1_lastNumber_15 : decode cX1_lastNumber 15 = .ok (.iconst 0, 1) := by decide +kernel
theorem dX1_lastNumber_16 : decode cX1_lastNumber 16 = .ok (.goto 7, 3) := by decide +kernel
theorem dX1_lastNumber_19 : decode cX1_lastNumber 19 = .ok (.aload_n 1, 1) := by decide +kernel
theorem dX1_lastNumber_20 : decode cX1_lastNumber 20 = .ok (.getfield 82, 3) := by decide +kernel
theorem dX1_lastNumber_23 : decode cX1_lastNumber 23 = .ok (.ireturn, 1) := by decide +kernel
theorem dX1_greatestWidth_0 : decode cX1_greatestWidth 0 = .ok (.iconst 0, 1) := by decide +kernel
theorem dX1_greatestWidth_1 : decode cX1_greatestWidth 1 = .ok (.istore_n 3, 1) := by decide +kernel
theorem dX1_greatestWidth_2 : decode cX1_greatestWidth 2 = .ok (.iload_n 1, 1) := by decide +kernel
theorem dX1_greatestWidth_3 : decode cX1_greatestWidth 3 = .ok (.istore 4, 2) := by decide +kernel
theorem dX1_greatestWidth_5 : decode cX1_greatestWidth 5 = .ok (.iload 4, 2) := by decide +kernel
theorem dX1_greatestWidth_7 : decode cX1_greatestWidth 7 = .ok (.iload_n 1, 1) := by decide +kernel
theorem dX1_greatestWidth_8 : decode cX1_greatestWidth 8 = .ok (.iload_n 2, 1) := by decide +kernel
theorem dX1_greatestWidth_9 : decode cX1_greatestWidth 9 = .ok (.iadd, 1) := by decide +kernel
theorem dX1_greatestWidth_10 : decode cX1_greatestWidth 10 = .ok (.if_icmp .ge 20, 3) := by decide +kernel
theorem dX1_greatestWidth_13 : decode cX1_greatestWidth 13 = .ok (.iload_n 3, 1) := by decide +kernel
theorem dX1_greatestWidth_14 : decode cX1_greatestWidth 14 = .ok (.aload_n 0, 1) := by decide +kernel
theorem dX1_greatestWidth_15 : decode cX1_greatestWidth 15 = .ok (.iload 4, 2) := by decide +kernel
theorem dX1_greatestWidth_17 : decode cX1_greatestWidth 17 = .ok (.invokevirtual 85, 3) := by decide +kernel
theorem dX1_greatestWidth_20 : decode cX1_greatestWidth 20 = .ok (.invokestatic 89, 3) := by decide +kernel
theorem dX1_greatestWidth_23 : decode cX1_greatestWidth 23 = .ok (.istore_n 3, 1) := by decide +kernel
theorem dX1_greatestWidth_24 : decode cX1_greatestWidth 24 = .ok (.iinc 4 1, 3) := by decide +kernel
theorem dX1_greatestWidth_27 : decode cX1_greatestWidth 27 = .ok (.goto (-22), 3) := by decide +kernel
theorem dX1_greatestWidth_30 : decode cX1_greatestWidth 30 = .ok (.iload_n 3, 1) := by decide +kernel
theorem dX1_greatestWidth_31 : decode cX1_greatestWidth 31 = .ok (.ireturn, 1) := by decide +kernel
theorem dX1_distanceFrom_0 : decode cX1_distanceFrom 0 = .ok (.aload_n 0, 1) := by decide +kernel
theorem dX1_distanceFrom_1 : decode cX1_distanceFrom 1 = .ok (.aload_n 2, 1) := by decide +kernel
theorem dX1_distanceFrom_2 : decode cX1_distanceFrom 2 = .ok (.getfield 95, 3) := by decide +kernel
theorem dX1_distanceFrom_5 : decode cX1_distanceFrom 5 = .ok (.aload_n 2, 1) := by decide +kernel
theorem dX1_distanceFrom_6 : decode cX1_distanceFrom 6 = .ok (.getfield 96, 3) := by decide +kernel
theorem dX1_distanceFrom_9 : decode cX1_distanceFrom 9 = .ok (.invokevirtual 97, 3) := by decide +kernel
theorem dX1_distanceFrom_12 : decode cX1_distanceFrom 12 = .ok (.istore_n 3, 1) := by decide +kernel
theorem dX1_distanceFrom_13 : decode cX1_distanceFrom 13 = .ok (.iconst 0, 1) := by decide +kernel
theorem dX1_distanceFrom_14 : decode cX1_distanceFrom 14 = .ok (.istore 4, 2) := by decide +kernel
theorem dX1_distanceFrom_16 : decode cX1_distanceFrom 16 = .ok (.iconst 0, 1) := by decide +kernel
theorem dX1_distanceFrom_17 : decode cX1_distanceFrom 17 = .ok (.istore 5, 2) := by decide +kernel
theorem dX1_distanceFrom_19 : decode cX1_distanceFrom 19 = .ok (.iload 5, 2) := by decide +kernel
theorem dX1_distanceFrom_21 : decode cX1_distanceFrom 21 = .ok (.aload_n 2, 1) := by decide +kernel
theorem dX1_distanceFrom_22 : decode cX1_distanceFrom 22 = .ok (.getfield 96, 3) := by decide +kernel
theorem dX1_distanceFrom_25 : decode cX1_distanceFrom 25 = .ok (.if_icmp .ge 40, 3) := by decide +kernel
theorem dX1_distanceFrom_28 : decode cX1_distanceFrom 28 = .ok (.iload 4, 2) := by decide +kernel
theorem dX1_distanceFrom_30 : decode cX1_distanceFrom 30 = .ok (.aload_n 0, 1) := by decide +kernel
theorem dX1_distanceFrom_31 : decode cX1_distanceFrom 31 = .ok (.aload_n 2, 1) := by decide +kernel
theorem dX1_distanceFrom_32 : decode cX1_distanceFrom 32 = .ok (.getfield 95, 3) := by decide +kernel
theorem dX1_distanceFrom_35 : decode cX1_distanceFrom 35 = .ok (.iload 5, 2) := by decide +kernel
theorem dX1_distanceFrom_37 : decode cX1_distanceFrom 37 = .ok (.iadd, 1) := by decide +kernel
theorem dX1_distanceFrom_38 : decode cX1_distanceFrom 38 = .ok (.invokevirtual 85, 3) := by decide +kernel
theorem dX1_distanceFrom_41 : decode cX1_distanceFrom 41 = .ok (.iload_n 1, 1) := by decide +kernel
theorem dX1_distanceFrom_42 : decode cX1_distanceFrom 42 = .ok (.iload_n 3, 1) := by decide +kernel
theorem dX1_distanceFrom_43 : decode cX1_distanceFrom 43 = .ok (.iload 5, 2) := by decide +kernel
theorem dX1_distanceFrom_45 : decode cX1_distanceFrom 45 = .ok (.aload_n 2, 1) := by decide +kernel
theorem dX1_distanceFrom_46 : decode cX1_distanceFrom 46 = .ok (.getfield 96, 3) := by decide +kernel
theorem dX1_distanceFrom_49 : decode cX1_distanceFrom 49 = .ok (.invokestatic 100, 3) := by decide +kernel
theorem dX1_distanceFrom_52 : decode cX1_distanceFrom 52 = .ok (.isub, 1) := by decide +kernel
theorem dX1_distanceFrom_53 : decode cX1_distanceFrom 53 = .ok (.invokestatic 104, 3) := by decide +kernel
theorem dX1_distanceFrom_56 : decode cX1_distanceFrom 56 = .ok (.iadd, 1) := by decide +kernel
theorem dX1_distanceFrom_57 : decode cX1_distanceFrom 57 = .ok (.istore 4, 2) := by decide +kernel
theorem dX1_distanceFrom_59 : decode cX1_distanceFrom 59 = .ok (.iinc 5 1, 3) := by decide +kernel
theorem dX1_distanceFrom_62 : decode cX1_distanceFrom 62 = .ok (.goto (-43), 3) := by decide +kernel
theorem dX1_distanceFrom_65 : decode cX1_distanceFrom 65 = .ok (.iload 4, 2) := by decide +kernel
theorem dX1_distanceFrom_67 : decode cX1_distanceFrom 67 = .ok (.ireturn, 1) := by decide +kernel
theorem dX1_breakLines_0 : decode cX1_breakLines 0 = .ok (.aload_n 0, 1) := by decide +kernel
theorem dX1_breakLines_1 : decode cX1_breakLines 1 = .ok (.iconst 0, 1) := by decide +kernel
theorem dX1_breakLines_2 : decode cX1_breakLines 2 = .ok (.putfield 35, 3) := by decide +kernel
theorem dX1_breakLines_5 : decode cX1_breakLines 5 = .ok (.aload_n 0, 1) := by decide +kernel
theorem dX1_breakLines_6 : decode cX1_breakLines 6 = .ok (.iconst 0, 1) := by decide +kernel
theorem dX1_breakLines_7 : decode cX1_breakLines 7 = .ok (.putfield 45, 3) := by decide +kernel
theorem dX1_breakLines_10 : decode cX1_breakLines 10 = .ok (.aload_n 0, 1) := by decide +kernel
theorem dX1_breakLines_11 : decode cX1_breakLines 11 = .ok (.iconst 0, 1) := by decide +kernel
theorem dX1_breakLines_12 : decode cX1_breakLines 12 = .ok (.putfield 39, 3) := by decide +kernel
theorem dX1_breakLines_15 : decode cX1_breakLines 15 = .ok (.iconst 0, 1) := by decide +kernel
theorem dX1_breakLines_16 : decode cX1_breakLines 16 = .ok (.istore_n 3, 1) := by decide +kernel
theorem dX1_breakLines_17 : decode cX1_breakLines 17 = .ok (.iload_n 3, 1) := by decide +kernel
theorem dX1_breakLines_18 : decode cX1_breakLines 18 = .ok (.aload_n 1, 1) := by decide +kernel
theorem dX1_breakLines_19 : decode cX1_breakLines 19 = .ok (.getfield 107, 3) := by decide +kernel
theorem dX1_breakLines_22 : decode cX1_breakLines 22 = .ok (.if_icmp .ge 149, 3) := by decide +kernel
theorem dX1_breakLines_25 : decode cX1_breakLines 25 = .ok (.aload_n 1, 1) := by decide +kernel
theorem dX1_breakLines_26 : decode cX1_breakLines 26 = .ok (.iload_n 3, 1) := by decide +kernel
theorem dX1_breakLines_27 : decode cX1_breakLines 27 = .ok (.invokevirtual 112, 3) := by decide +kernel
theorem dX1_breakLines_30 : decode cX1_breakLines 30 = .ok (.astore 4, 2) := by decide +kernel
theorem dX1_breakLines_32 : decode cX1_breakLines 32 = .ok (.aload 4, 2) := by decide +kernel
theorem dX1_breakLines_34 : decode cX1_breakLines 34 = .ok (.ifnull 131, 3) := by decide +kernel
theorem dX1_breakLines_37 : decode cX1_breakLines 37 = .ok (.aload_n 1, 1) := by decide +kernel
theorem dX1_breakLines_38 : decode cX1_breakLines 38 = .ok (.iload_n 3, 1) := by decide +kernel
theorem dX1_breakLines_39 : decode cX1_breakLines 39 = .ok (.invokevirtual 116, 3) := by decide +kernel
theorem dX1_breakLines_42 : decode cX1_breakLines 42 = .ok (.ifCond .eq 11, 3) := by decide +kernel
theorem dX1_breakLines_45 : decode cX1_breakLines 45 = .ok (.aload_n 0, 1) := by decide +kernel
theorem dX1_breakLines_46 : decode cX1_breakLines 46 = .ok (.iload_n 3, 1) := by decide +kernel
theorem dX1_breakLines_47 : decode cX1_breakLines 47 = .ok (.invokevirtual 120, 3) := by decide +kernel
theorem dX1_breakLines_50 : decode cX1_breakLines 50 = .ok (.goto 8, 3) := by decide +kernel
theorem dX1_breakLines_53 : decode cX1_breakLines 53 = .ok (.aload_n 0, 1) := by decide +kernel
theorem dX1_breakLines_54 : decode cX1_breakLines 54 = .ok (.iload_n 3, 1) := by decide +kernel
theorem dX1_breakLines_55 : decode cX1_breakLines 55 = .ok (.invokevirtual 124, 3) := by decide +kernel
theorem dX1_breakLines_58 : decode cX1_breakLines 58 = .ok (.astore 5, 2) := by decide +kernel
theorem dX1_breakLines_60 : decode cX1_breakLines 60 = .ok (.aload_n 0, 1) := by decide +kernel
theorem dX1_breakLines_61 : decode cX1_breakLines 61 = .ok (.aload 4, 2) := by decide +kernel
theorem dX1_breakLines_63 : decode cX1_breakLines 63 = .ok (.iload_n 3, 1) := by decide +kernel
theorem dX1_breakLines_64 : decode cX1_breakLines 64 = .ok (.aload 5, 2) := by decide +kernel
theorem dX1_breakLines_66 : decode cX1_breakLines 66 = .ok (.getfield 127, 3) := by decide +kernel
theorem dX1_breakLines_69 : decode cX1_breakLines 69 = .ok (.if_icmp .le 7, 3) := by decide +kernel
theorem dX1_breakLines_72 : decode cX1_breakLines 72 = .ok (.iconst 1, 1) := by decide +kernel
theorem dX1_breakLines_73 : decode cX1_breakLines 73 = .ok (.goto 4, 3) := by decide +kernel
theorem dX1_breakLines_76 : decode cX1_breakLines 76 = .ok (.iconst 0, 1) := by decide +kernel
theorem dX1_breakLines_77 : decode cX1_breakLines 77 = .ok (.invokevirtual 130, 3) := by decide +kernel
theorem dX1_breakLines_80 : decode cX1_breakLines 80 = .ok (.astore 6, 2) := by decide +kernel
theorem dX1_breakLines_82 : decode cX1_breakLines 82 = .ok (.aload_n 0, 1) := by decide +kernel
theorem dX1_breakLines_83 : decode cX1_breakLines 83 = .ok (.aload 4, 2) := by decide +kernel
theorem dX1_breakLines_85 : decode cX1_breakLines 85 = .ok (.iload_n 3, 1) := by decide +kernel
theorem dX1_breakLines_86 : decode cX1_breakLines 86 = .ok (.aload 6, 2) := by decide +kernel
theorem dX1_breakLines_88 : decode cX1_breakLines 88 = .ok (.aload_n 1, 1) := by decide +kernel
theorem dX1_breakLines_89 : decode cX1_breakLines 89 = .ok (.iload_n 2, 1) := by decide +kernel
theorem dX1_breakLines_90 : decode cX1_breakLines 90 = .ok (.invokevirtual 134, 3) := by decide +kernel
theorem dX1_breakLines_93 : decode cX1_breakLines 93 = .ok (.astore 7, 2) := by decide +kernel
theorem dX1_breakLines_95 : decode cX1_breakLines 95 = .ok (.aload 4, 2) := by decide +kernel
theorem dX1_breakLines_97 : decode cX1_breakLines 97 = .ok (.getfield 138, 3) := by decide +kernel
theorem dX1_breakLines_100 : decode cX1_breakLines 100 = .ok (.aload_n 1, 1) := by decide +kernel
theorem dX1_breakLines_101 : decode cX1_breakLines 101 = .ok (.iconst 2, 1) := by decide +kernel
theorem dX1_breakLines_102 : decode cX1_breakLines 102 = .ok (.invokevirtual 143, 3) := by decide +kernel
theorem dX1_breakLines_105 : decode cX1_breakLines 105 = .ok (.imul, 1) := by decide +kernel
theorem dX1_breakLines_106 : decode cX1_breakLines 106 = .ok (.aload_n 1, 1) := by decide +kernel
theorem dX1_breakLines_107 : decode cX1_breakLines 107 = .ok (.iconst 3, 1) := by decide +kernel
theorem dX1_breakLines_108 : decode cX1_breakLines 108 = .ok (.invokevirtual 143, 3) := by decide +kernel
theorem dX1_breakLines_111 : decode cX1_breakLines 111 = .ok (.iadd, 1) := by decide +kernel
theorem dX1_breakLines_112 : decode cX1_breakLines 112 = .ok (.istore 8, 2) := by decide +kernel
theorem dX1_breakLines_114 : decode cX1_breakLines 114 = .ok (.aload_n 0, 1) := by decide +kernel
theorem dX1_breakLines_115 : decode cX1_breakLines 115 = .ok (.aload 4, 2) := by decide +kernel
theorem dX1_breakLines_117 : decode cX1_breakLines 117 = .ok (.getfield 146, 3) := by decide +kernel
theorem dX1_breakLines_120 : decode cX1_breakLines 120 = .ok (.aload 7, 2) := by decide +kernel
theorem dX1_breakLines_122 : decode cX1_breakLines 122 = .ok (.iload 8, 2) := by decide +kernel
theorem dX1_breakLines_124 : decode cX1_breakLines 124 = .ok (.iload_n 2, 1) := by decide +kernel
theorem dX1_breakLines_125 : decode cX1_breakLines 125 = .ok (.bipush 6, 2) := by decide +kernel
theorem dX1_breakLines_127 : decode cX1_breakLines 127 = .ok (.isub, 1) := by decide +kernel
theorem dX1_breakLines_128 : decode cX1_breakLines 128 = .ok (.invokestatic 150, 3) := by decide +kernel
theorem dX1_breakLines_131 : decode cX1_breakLines 131 = .ok (.iload_n 2, 1) := by decide +kernel
theorem dX1_breakLines_132 : decode cX1_breakLines 132 = .ok (.invokevirtual 153, 3) := by decide +kernel
theorem dX1_breakLines_135 : decode cX1_breakLines 135 = .ok (.aload 6, 2) := by decide +kernel
theorem dX1_breakLines_137 : decode cX1_breakLines 137 = .ok (.aload_n 0, 1) := by decide +kernel
theorem dX1_breakLines_138 : decode cX1_breakLines 138 = .ok (.getfield 35, 3) := by decide +kernel
theorem dX1_breakLines_141 : decode cX1_breakLines 141 = .ok (.aload 6, 2) := by decide +kernel
theorem dX1_breakLines_143 : decode cX1_breakLines 143 = .ok (.getfield 157, 3) := by decide +kernel
theorem dX1_breakLines_146 : decode cX1_breakLines 146 = .ok (.isub, 1) := by decide +kernel
theorem dX1_breakLines_147 : decode cX1_breakLines 147 = .ok (.putfield 158, 3) := by decide +kernel
theorem dX1_breakLines_150 : decode cX1_breakLines 150 = .ok (.aload 5, 2) := by decide +kernel
theorem dX1_breakLines_152 : decode cX1_breakLines 152 = .ok (.dup, 1) := by decide +kernel
theorem dX1_breakLines_153 : decode cX1_breakLines 153 = .ok (.getfield 96, 3) := by decide +kernel
theorem dX1_breakLines_156 : decode cX1_breakLines 156 = .ok (.aload 6, 2) := by decide +kernel
theorem dX1_breakLines_158 : decode cX1_breakLines 158 = .ok (.getfield 158, 3) := by decide +kernel
theorem dX1_breakLines_161 : decode cX1_breakLines 161 = .ok (.iadd, 1) := by decide +kernel
theorem dX1_breakLines_162 : decode cX1_breakLines 162 = .ok (.putfield 96, 3) := by decide +kernel
theorem dX1_breakLines_165 : decode cX1_breakLines 165 = .ok (.iinc 3 1, 3) := by decide +kernel
theorem dX1_breakLines_168 : decode cX1_breakLines 168 = .ok (.goto (-151), 3) := by decide +kernel
theorem dX1_breakLines_171 : decode cX1_breakLines 171 = .ok (.return_, 1) := by decide +kernel
theorem dX1_putOnPages_0 : decode cX1_putOnPages 0 = .ok (.aload_n 0, 1) := by decide +kernel
theorem dX1_putOnPages_1 : decode cX1_putOnPages 1 = .ok (.iconst 0, 1) := by decide +kernel
theorem dX1_putOnPages_2 : decode cX1_putOnPages 2 = .ok (.putfield 42, 3) := by decide +kernel
theorem dX1_putOnPages_5 : decode cX1_putOnPages 5 = .ok (.aload_n 0, 1) := by decide +kernel
theorem dX1_putOnPages_6 : decode cX1_putOnPages 6 = .ok (.iconst 0, 1) := by decide +kernel
theorem dX1_putOnPages_7 : decode cX1_putOnPages 7 = .ok (.putfield 48, 3) := by decide +kernel
theorem dX1_putOnPages_10 : decode cX1_putOnPages 10 = .ok (.iconst 0, 1) := by decide +kernel
theorem dX1_putOnPages_11 : decode cX1_putOnPages 11 = .ok (.istore_n 3, 1) := by decide +kernel
theorem dX1_putOnPages_12 : decode cX1_putOnPages 12 = .ok (.iload_n 3, 1) := by decide +kernel
theorem dX1_putOnPages_13 : decode cX1_putOnPages 13 = .ok (.aload_n 0, 1) := by decide +kernel
theorem dX1_putOnPages_14 : decode cX1_putOnPages 14 = .ok (.getfield 39, 3) := by decide +kernel
theorem dX1_putOnPages_17 : decode cX1_putOnPages 17 = .ok (.if_icmp .ge 36, 3) := by decide +kernel
theorem dX1_putOnPages_20 : decode cX1_putOnPages 20 = .ok (.aload_n 0, 1) := by decide +kernel
theorem dX1_putOnPages_21 : decode cX1_putOnPages 21 = .ok (.iload_n 3, 1) := by decide +kernel
theorem dX1_putOnPages_22 : decode cX1_putOnPages 22 = .ok (.invokevirtual 159, 3) := by decide +kernel
theorem dX1_putOnPages_25 : decode cX1_putOnPages 25 = .ok (.astore 4, 2) := by decide +kernel
theorem dX1_putOnPages_27 : decode cX1_putOnPages 27 = .ok (.aload 4, 2) := by decide +kernel
theorem dX1_putOnPages_29 : decode cX1_putOnPages 29 = .ok (.ifnull 18, 3) := by decide +kernel
theorem dX1_putOnPages_32 : decode cX1_putOnPages 32 = .ok (.aload_n 0, 1) := by decide +kernel
theorem dX1_putOnPages_33 : decode cX1_putOnPages 33 = .ok (.aload 4, 2) := by decide +kernel
theorem dX1_putOnPages_35 : decode cX1_putOnPages 35 = .ok (.iload_n 1, 1) := by decide +kernel
theorem dX1_putOnPages_36 : decode cX1_putOnPages 36 = .ok (.iload_n 2, 1) := by decide +kernel
theorem dX1_putOnPages_37 : decode cX1_putOnPages 37 = .ok (.invokevirtual 162, 3) := by decide +kernel
theorem dX1_putOnPages_40 : decode cX1_putOnPages 40 = .ok (.aload_n 0, 1) := by decide +kernel
theorem dX1_putOnPages_41 : decode cX1_putOnPages 41 = .ok (.aload 4, 2) := by decide +kernel
theorem dX1_putOnPages_43 : decode cX1_putOnPages 43 = .ok (.iload_n 1, 1) := by decide +kernel
theorem dX1_putOnPages_44 : decode cX1_putOnPages 44 = .ok (.invokevirtual 166, 3) := by decide +kernel
theorem dX1_putOnPages_47 : decode cX1_putOnPages 47 = .ok (.iinc 3 1, 3) := by decide +kernel
theorem dX1_putOnPages_50 : decode cX1_putOnPages 50 = .ok (.goto (-38), 3) := by decide +kernel
theorem dX1_putOnPages_53 : decode cX1_putOnPages 53 = .ok (.iconst 0, 1) := by decide +kernel
theorem dX1_putOnPages_54 : decode cX1_putOnPages 54 = .ok (.istore_n 3, 1) := by decide +kernel
theorem dX1_putOnPages_55 : decode cX1_putOnPages 55 = .ok (.iload_n 3, 1) := by decide +kernel
theorem dX1_putOnPages_56 : decode cX1_putOnPages 56 = .ok (.aload_n 0, 1) := by decide +kernel
theorem dX1_putOnPages_57 : decode cX1_putOnPages 57 = .ok (.getfield 42, 3) := by decide +kernel
theorem dX1_putOnPages_60 : decode cX1_putOnPages 60 = .ok (.if_icmp .ge 37, 3) := by decide +kernel
theorem dX1_putOnPages_63 : decode cX1_putOnPages 63 = .ok (.aload_n 0, 1) := by decide +kernel
theorem dX1_putOnPages_64 : decode cX1_putOnPages 64 = .ok (.iload_n 3, 1) := by decide +kernel
theorem dX1_putOnPages_65 : decode cX1_putOnPages 65 = .ok (.invokevirtual 71, 3) := by decide +kernel
theorem dX1_putOnPages_68 : decode cX1_putOnPages 68 = .ok (.astore 4, 2) := by decide +kernel
theorem dX1_putOnPages_70 : decode cX1_putOnPages 70 = .ok (.aload 4, 2) := by decide +kernel
theorem dX1_putOnPages_72 : decode cX1_putOnPages 72 = .ok (.ifnull 19, 3) := by decide +kernel
theorem dX1_putOnPages_75 : decode cX1_putOnPages 75 = .ok (.aload 4, 2) := by decide +kernel
theorem dX1_putOnPages_77 : decode cX1_putOnPages 77 = .ok (.aload_n 0, 1) := by decide +kernel
theorem dX1_putOnPages_78 : decode cX1_putOnPages 78 = .ok (.aload_n 0, 1) := by decide +kernel
theorem dX1_putOnPages_79 : decode cX1_putOnPages 79 = .ok (.iload_n 3, 1) := by decide +kernel
theorem dX1_putOnPages_80 : decode cX1_putOnPages 80 = .ok (.iconst 1, 1) := by decide +kernel
theorem dX1_putOnPages_81 : decode cX1_putOnPages 81 = .ok (.iadd, 1) := by decide +kernel
theorem dX1_putOnPages_82 : decode cX1_putOnPages 82 = .ok (.invokevirtual 71, 3) := by decide +kernel
theorem dX1_putOnPages_85 : decode cX1_putOnPages 85 = .ok (.invokevirtual 170, 3) := by decide +kernel
theorem dX1_putOnPages_88 : decode cX1_putOnPages 88 = .ok (.putfield 75, 3) := by decide +kernel
theorem dX1_putOnPages_91 : decode cX1_putOnPages 91 = .ok (.iinc 3 1, 3) := by decide +kernel
theorem dX1_putOnPages_94 : decode cX1_putOnPages 94 = .ok (.goto (-39), 3) := by decide +kernel
theorem dX1_putOnPages_97 : decode cX1_putOnPages 97 = .ok (.return_, 1) := by decide +kernel
theorem dX1_addFirstRow_0 : decode cX1_addFirstRow 0 = .ok (.aload_n 3, 1) := by decide +kernel
theorem dX1_addFirstRow_1 : decode cX1_addFirstRow 1 = .ok (.getfield 174, 3) := by decide +kernel
theorem dX1_addFirstRow_4 : decode cX1_addFirstRow 4 = .ok (.ifCond .eq 18, 3) := by decide +kernel
theorem dX1_addFirstRow_7 : decode cX1_addFirstRow 7 = .ok (.aload_n 0, 1) := by decide +kernel
theorem dX1_addFirstRow_8 : decode cX1_addFirstRow 8 = .ok (.aload_n 0, 1) := by decide +kernel
theorem dX1_addFirstRow_9 : decode cX1_addFirstRow 9 = .ok (.getfield 35, 3) := by decide +kernel
theorem dX1_addFirstRow_12 : decode cX1_addFirstRow 12 = .ok (.iconst 1, 1) := by decide +kernel
theorem dX1_addFirstRow_13 : decode cX1_addFirstRow 13 = .ok (.isub, 1) := by decide +kernel
theorem dX1_addFirstRow_14 : decode cX1_addFirstRow 14 = .ok (.invokevirtual 85, 3) := by decide +kernel
theorem dX1_addFirstRow_17 : decode cX1_addFirstRow 17 = .ok (.iconst 1, 1) := by decide +kernel
theorem dX1_addFirstRow_18 : decode cX1_addFirstRow 18 = .ok (.iadd, 1) := by decide +kernel
theorem dX1_addFirstRow_19 : decode cX1_addFirstRow 19 = .ok (.goto 14, 3) := by decide +kernel
theorem dX1_addFirstRow_22 : decode cX1_addFirstRow 22 = .ok (.aload_n 1, 1) := by decide +kernel
theorem dX1_addFirstRow_23 : decode cX1_addFirstRow 23 = .ok (.getfield 138, 3) := by decide +kernel
theorem dX1_addFirstRow_26 : decode cX1_addFirstRow 26 = .ok (.aload 4, 2) := by decide +kernel
theorem dX1_addFirstRow_28 : decode cX1_addFirstRow 28 = .ok (.iconst 2, 1) := by decide +kernel
theorem dX1_addFirstRow_29 : decode cX1_addFirstRow 29 = .ok (.invokevirtual 143, 3) := by decide +kernel
theorem dX1_addFirstRow_32 : decode cX1_addFirstRow 32 = .ok (.imul, 1) := by decide +kernel
theorem dX1_addFirstRow_33 : decode cX1_addFirstRow 33 = .ok (.istore 6, 2) := by decide +kernel
theorem dX1_addFirstRow_35 : decode cX1_addFirstRow 35 = .ok (.aload_n 0, 1) := by decide +kernel
theorem dX1_addFirstRow_36 : decode cX1_addFirstRow 36 = .ok (.iload_n 2, 1) := by decide +kernel
theorem dX1_addFirstRow_37 : decode cX1_addFirstRow 37 = .ok (.iload 6, 2) := by decide +kernel
theorem dX1_addFirstRow_39 : decode cX1_addFirstRow 39 = .ok (.iload 5, 2) := by decide +kernel
theorem dX1_addFirstRow_41 : decode cX1_addFirstRow 41 = .ok (.bipush 6, 2) := by decide +kernel
theorem dX1_addFirstRow_43 : decode cX1_addFirstRow 43 = .ok (.isub, 1) := by decide +kernel
theorem dX1_addFirstRow_44 : decode cX1_addFirstRow 44 = .ok (.invokestatic 150, 3) := by decide +kernel
theorem dX1_addFirstRow_47 : decode cX1_addFirstRow 47 = .ok (.iconst 0, 1) := by decide +kernel
theorem dX1_addFirstRow_48 : decode cX1_addFirstRow 48 = .ok (.invokevirtual 177, 3) := by decide +kernel
theorem dX1_addFirstRow_51 : decode cX1_addFirstRow 51 = .ok (.astore 7, 2) := by decide +kernel
theorem dX1_addFirstRow_53 : decode cX1_addFirstRow 53 = .ok (.aload 7, 2) := by decide +kernel
theorem dX1_addFirstRow_55 : decode cX1_addFirstRow 55 = .ok (.aload_n 3, 1) := by decide +kernel
theorem dX1_addFirstRow_56 : decode cX1_addFirstRow 56 = .ok (.getfield 174, 3) := by decide +kernel
theorem dX1_addFirstRow_59 : decode cX1_addFirstRow 59 = .ok (.ifCond .ne 19, 3) := by decide +kernel
theorem dX1_addFirstRow_62 : decode cX1_addFirstRow 62 = .ok (.aload_n 3, 1) := by decide +kernel
theorem dX1_addFirstRow_63 : decode cX1_addFirstRow 63 = .ok (.getfield 82, 3) := by decide +kernel
theorem dX1_addFirstRow_66 : decode cX1_addFirstRow 66 = .ok (.iconst 5, 1) := by decide +kernel
theorem dX1_addFirstRow_67 : decode cX1_addFirstRow 67 = .ok (.irem, 1) := by decide +kernel
theorem dX1_addFirstRow_68 : decode cX1_addFirstRow 68 = .ok (.ifCond .ne 10, 3) := by decide +kernel
theorem dX1_addFirstRow_71 : decode cX1_addFirstRow 71 = .ok (.aload_n 3, 1) := by decide +kernel
theorem dX1_addFirstRow_72 : decode cX1_addFirstRow 72 = .ok (.getfield 82, 3) := by decide +kernel
theorem dX1_addFirstRow_75 : decode cX1_addFirstRow 75 = .ok (.goto 4, 3) := by decide +kernel
theorem dX1_addFirstRow_78 : decode cX1_addFirstRow 78 = .ok (.iconst 0, 1) := by decide +kernel
theorem dX1_addFirstRow_79 : decode cX1_addFirstRow 79 = .ok (.putfield 181, 3) := by decide +kernel
theorem dX1_addFirstRow_82 : decode cX1_addFirstRow 82 = .ok (.aload 7, 2) := by decide +kernel
theorem dX1_addFirstRow_84 : decode cX1_addFirstRow 84 = .ok (.areturn, 1) := by decide +kernel
theorem dX1_putWords_0 : decode cX1_putWords 0 = .ok (.aload_n 2, 1) := by decide +kernel
theorem dX1_putWords_1 : decode cX1_putWords 1 = .ok (.astore 5, 2) := by decide +kernel
theorem dX1_putWords_3 : decode cX1_putWords 3 = .ok (.iconst 0, 1) := by decide +kernel
theorem dX1_putWords_4 : decode cX1_putWords 4 = .ok (.istore 6, 2) := by decide +kernel
theorem dX1_putWords_6 : decode cX1_putWords 6 = .ok (.iconst 0, 1) := by decide +kernel
theorem dX1_putWords_7 : decode cX1_putWords 7 = .ok (.istore 7, 2) := by decide +kernel
theorem dX1_putWords_9 : decode cX1_putWords 9 = .ok (.iload 7, 2) := by decide +kernel
theorem dX1_putWords_11 : decode cX1_putWords 11 = .ok (.aload_n 1, 1) := by decide +kernel
theorem dX1_putWords_12 : decode cX1_putWords 12 = .ok (.getfield 184, 3) := by decide +kernel
theorem dX1_putWords_15 : decode cX1_putWords 15 = .ok (.if_icmp .ge 101, 3) := by decide +kernel
theorem dX1_putWords_18 : decode cX1_putWords 18 = .ok (.aload_n 1, 1) := by decide +kernel
theorem dX1_putWords_19 : decode cX1_putWords 19 = .ok (.iload 7, 2) := by decide +kernel
theorem dX1_putWords_21 : decode cX1_putWords 21 = .ok (.invokevirtual 187, 3) := by decide +kernel
theorem dX1_putWords_24 : decode cX1_putWords 24 = .ok (.istore 8, 2) := by decide +kernel
theorem dX1_putWords_26 : decode cX1_putWords 26 = .ok (.aload 5, 2) := by decide +kernel
theorem dX1_putWords_28 : decode cX1_putWords 28 = .ok (.getfield 190, 3) := by decide +kernel
theorem dX1_putWords_31 : decode cX1_putWords 31 = .ok (.ifCond .le 35, 3) := by decide +kernel
theorem dX1_putWords_34 : decode cX1_putWords 34 = .ok (.aload 5, 2) := by decide +kernel
theorem dX1_putWords_36 : decode cX1_putWords 36 = .ok (.invokevirtual 193, 3) := by decide +kernel
theorem dX1_putWords_39 : decode cX1_putWords 39 = .ok (.iconst 1, 1) := by decide +kernel
theorem dX1_putWords_40 : decode cX1_putWords 40 = .ok (.iadd, 1) := by decide +kernel
theorem dX1_putWords_41 : decode cX1_putWords 41 = .ok (.iload 8, 2) := by decide +kernel
theorem dX1_putWords_43 : decode cX1_putWords 43 = .ok (.iadd, 1) := by decide +kernel
theorem dX1_putWords_44 : decode cX1_putWords 44 = .ok (.iload 4, 2) := by decide +kernel
theorem dX1_putWords_46 : decode cX1_putWords 46 = .ok (.if_icmp .gt 20, 3) := by decide +kernel
theorem dX1_putWords_49 : decode cX1_putWords 49 = .ok (.aload 5, 2) := by decide +kernel
theorem dX1_putWords_51 : decode cX1_putWords 51 = .ok (.dup, 1) := by decide +kernel
theorem dX1_putWords_52 : decode cX1_putWords 52 = .ok (.getfield 190, 3) := by decide +kernel
theorem dX1_putWords_55 : decode cX1_putWords 55 = .ok (.iconst 1, 1) := by decide +kernel
theorem dX1_putWords_56 : decode cX1_putWords 56 = .ok (.iload 8, 2) := by decide +kernel
theorem dX1_putWords_58 : decode cX1_putWords 58 = .ok (.iadd, 1) := by decide +kernel
theorem dX1_putWords_59 : decode cX1_putWords 59 = .ok (.iadd, 1) := by decide +kernel
theorem dX1_putWords_60 : decode cX1_putWords 60 = .ok (.putfield 190, 3) := by decide +kernel
theorem dX1_putWords_63 : decode cX1_putWords 63 = .ok (.goto 38, 3) := by decide +kernel
theorem dX1_putWords_66 : decode cX1_putWords 66 = .ok (.aload 5, 2) := by decide +kernel
theorem dX1_putWords_68 : decode cX1_putWords 68 = .ok (.getfield 190, 3) := by decide +kernel
theorem dX1_putWords_71 : decode cX1_putWords 71 = .ok (.ifCond .le 17, 3) := by decide +kernel
theorem dX1_putWords_74 : decode cX1_putWords 74 = .ok (.aload_n 0, 1) := by decide +kernel
theorem dX1_putWords_75 : decode cX1_putWords 75 = .ok (.aload 5, 2) := by decide +kernel
theorem dX1_putWords_77 : decode cX1_putWords 77 = .ok (.getfield 197, 3) := by decide +kernel
theorem dX1_putWords_80 : decode cX1_putWords 80 = .ok (.iload_n 3, 1) := by decide +kernel
theorem dX1_putWords_81 : decode cX1_putWords 81 = .ok (.iload 6, 2) := by decide +kernel
theorem dX1_putWords_83 : decode cX1_putWords 83 = .ok (.invokevirtual 177, 3) := by decide +kernel
theorem dX1_putWords_86 : decode cX1_putWords 86 = .ok (.astore 5, 2) := by decide +kernel
theorem dX1_putWords_88 : decode cX1_putWords 88 = .ok (.aload_n 0, 1) := by decide +kernel
theorem dX1_putWords_89 : decode cX1_putWords 89 = .ok (.iload 8, 2) := by decide +kernel
theorem dX1_putWords_91 : decode cX1_putWords 91 = .ok (.aload 5, 2) := by decide +kernel
theorem dX1_putWords_93 : decode cX1_putWords 93 = .ok (.iload_n 3, 1) := by decide +kernel
theorem dX1_putWords_94 : decode cX1_putWords 94 = .ok (.iload 4, 2) := by decide +kernel
theorem dX1_putWords_96 : decode cX1_putWords 96 = .ok (.invokevirtual 200, 3) := by decide +kernel
theorem dX1_putWords_99 : decode cX1_putWords 99 = .ok (.astore 5, 2) := by decide +kernel
theorem dX1_putWords_101 : decode cX1_putWords 101 = .ok (.iload 6, 2) := by decide +kernel
theorem dX1_putWords_103 : decode cX1_putWords 103 = .ok (.iload 8, 2) := by decide +kernel
theorem dX1_putWords_105 : decode cX1_putWords 105 = .ok (.iconst 1, 1) := by decide +kernel
theorem dX1_putWords_106 : decode cX1_putWords 106 = .ok (.iadd, 1) := by decide +kernel
theorem dX1_putWords_107 : decode cX1_putWords 107 = .ok (.iadd, 1) := by decide +kernel
theorem dX1_putWords_108 : decode cX1_putWords 108 = .ok (.istore 6, 2) := by decide +kernel
theorem dX1_putWords_110 : decode cX1_putWords 110 = .ok (.iinc 7 1, 3) := by decide +kernel
theorem dX1_putWords_113 : decode cX1_putWords 113 = .ok (.goto (-104), 3) := by decide +kernel
theorem dX1_putWords_116 : decode cX1_putWords 116 = .ok (.return_, 1) := by decide +kernel
theorem dX1_putWord_0 : decode cX1_putWord 0 = .ok (.aload_n 2, 1) := by decide +kernel
theorem dX1_putWord_1 : decode cX1_putWord 1 = .ok (.astore 5, 2) := by decide +kernel
theorem dX1_putWord_3 : decode cX1_putWord 3 = .ok (.iload_n 1, 1) := by decide +kernel
theorem dX1_putWord_4 : decode cX1_putWord 4 = .ok (.istore 6, 2) := by decide +kernel
theorem dX1_putWord_6 : decode cX1_putWord 6 = .ok (.iconst 0, 1) := by decide +kernel
theorem dX1_putWord_7 : decode cX1_putWord 7 = .ok (.istore 7, 2) := by decide +kernel
theorem dX1_putWord_9 : decode cX1_putWord 9 = .ok (.iload 7, 2) := by decide +kernel
theorem dX1_putWord_11 : decode cX1_putWord 11 = .ok (.bipush 16, 2) := by decide +kernel
theorem dX1_putWord_13 : decode cX1_putWord 13 = .ok (.if_icmp .ge 74, 3) := by decide +kernel
theorem dX1_putWord_16 : decode cX1_putWord 16 = .ok (.iload 6, 2) := by decide +kernel
theorem dX1_putWord_18 : decode cX1_putWord 18 = .ok (.iload 4, 2) := by decide +kernel
theorem dX1_putWord_20 : decode cX1_putWord 20 = .ok (.aload 5, 2) := by decide +kernel
theorem dX1_putWord_22 : decode cX1_putWord 22 = .ok (.getfield 204, 3) := by decide +kernel
theorem dX1_putWord_25 : decode cX1_putWord 25 = .ok (.isub, 1) := by decide +kernel
theorem dX1_putWord_26 : decode cX1_putWord 26 = .ok (.if_icmp .le 61, 3) := by decide +kernel
theorem dX1_putWord_29 : decode cX1_putWord 29 = .ok (.aload 5, 2) := by decide +kernel
theorem dX1_putWord_31 : decode cX1_putWord 31 = .ok (.iload 4, 2) := by decide +kernel
theorem dX1_putWord_33 : decode cX1_putWord 33 = .ok (.aload 5, 2) := by decide +kernel
theorem dX1_putWord_35 : decode cX1_putWord 35 = .ok (.getfield 204, 3) := by decide +kernel
theorem dX1_putWord_38 : decode cX1_putWord 38 = .ok (.isub, 1) := by decide +kernel
theorem dX1_putWord_39 : decode cX1_putWord 39 = .ok (.putfield 190, 3) := by decide +kernel
theorem dX1_putWord_42 : decode cX1_putWord 42 = .ok (.iload 6, 2) := by decide +kernel
theorem dX1_putWord_44 : decode cX1_putWord 44 = .ok (.aload 5, 2) := by decide +kernel
theorem dX1_putWord_46 : decode cX1_putWord 46 = .ok (.getfield 190, 3) := by decide +kernel
theorem dX1_putWord_49 : decode cX1_putWord 49 = .ok (.isub, 1) := by decide +kernel
theorem dX1_putWord_50 : decode cX1_putWord 50 = .ok (.istore 6, 2) := by decide +kernel
theorem dX1_putWord_52 : decode cX1_putWord 52 = .ok (.aload_n 0, 1) := by decide +kernel
theorem dX1_putWord_53 : decode cX1_putWord 53 = .ok (.aload 5, 2) := by decide +kernel
theorem dX1_putWord_55 : decode cX1_putWord 55 = .ok (.getfield 197, 3) := by decide +kernel
theorem dX1_putWord_58 : decode cX1_putWord 58 = .ok (.iload_n 3, 1) := by decide +kernel
theorem dX1_putWord_59 : decode cX1_putWord 59 = .ok (.aload 5, 2) := by decide +kernel
theorem dX1_putWord_61 : decode cX1_putWord 61 = .ok (.getfield 207, 3) := by decide +kernel
theorem dX1_putWord_64 : decode cX1_putWord 64 = .ok (.aload 5, 2) := by decide +kernel
theorem dX1_putWord_66 : decode cX1_putWord 66 = .ok (.getfield 190, 3) := by decide +kernel
theorem dX1_putWord_69 : decode cX1_putWord 69 = .ok (.iadd, 1) := by decide +kernel
theorem dX1_putWord_70 : decode cX1_putWord 70 = .ok (.invokevirtual 177, 3) := by decide +kernel
theorem dX1_putWord_73 : decode cX1_putWord 73 = .ok (.astore 5, 2) := by decide +kernel
theorem dX1_putWord_75 : decode cX1_putWord 75 = .ok (.aload 5, 2) := by decide +kernel
theorem dX1_putWord_77 : decode cX1_putWord 77 = .ok (.iconst 1, 1) := by decide +kernel
theorem dX1_putWord_78 : decode cX1_putWord 78 = .ok (.putfield 63, 3) := by decide +kernel
theorem dX1_putWord_81 : decode cX1_putWord 81 = .ok (.iinc 7 1, 3) := by decide +kernel
theorem dX1_putWord_84 : decode cX1_putWord 84 = .ok (.goto (-75), 3) := by decide +kernel
theorem dX1_putWord_87 : decode cX1_putWord 87 = .ok (.aload 5, 2) := by decide +kernel
theorem dX1_putWord_89 : decode cX1_putWord 89 = .ok (.iload 6, 2) := by decide +kernel
theorem dX1_putWord_91 : decode cX1_putWord 91 = .ok (.putfield 190, 3) := by decide +kernel
theorem dX1_putWord_94 : decode cX1_putWord 94 = .ok (.aload 5, 2) := by decide +kernel
theorem dX1_putWord_96 : decode cX1_putWord 96 = .ok (.areturn, 1) := by decide +kernel
theorem dX1_passOver_0 : decode cX1_passOver 0 = .ok (.aload_n 0, 1) := by decide +kernel
theorem dX1_passOver_1 : decode cX1_passOver 1 = .ok (.aload_n 1, 1) := by decide +kernel
theorem dX1_passOver_2 : decode cX1_passOver 2 = .ok (.getfield 127, 3) := by decide +kernel
theorem dX1_passOver_5 : decode cX1_passOver 5 = .ok (.invokevirtual 78, 3) := by decide +kernel
theorem dX1_passOver_8 : decode cX1_passOver 8 = .ok (.astore 4, 2) := by decide +kernel
theorem dX1_passOver_10 : decode cX1_passOver 10 = .ok (.aload_n 0, 1) := by decide +kernel
theorem dX1_passOver_11 : decode cX1_passOver 11 = .ok (.getfield 42, 3) := by decide +kernel
theorem dX1_passOver_14 : decode cX1_passOver 14 = .ok (.ifCond .eq 8, 3) := by decide +kernel
theorem dX1_passOver_17 : decode cX1_passOver 17 = .ok (.aload 4, 2) := by decide +kernel
theorem dX1_passOver_19 : decode cX1_passOver 19 = .ok (.ifnonnull 4, 3) := by decide +kernel
theorem dX1_passOver_22 : decode cX1_passOver 22 = .ok (.return_, 1) := by decide +kernel
theorem dX1_passOver_23 : decode cX1_passOver 23 = .ok (.iload_n 2, 1) := by decide +kernel
theorem dX1_passOver_24 : decode cX1_passOver 24 = .ok (.aload_n 0, 1) := by decide +kernel
theorem dX1_passOver_25 : decode cX1_passOver 25 = .ok (.getfield 48, 3) := by decide +kernel
theorem dX1_passOver_28 : decode cX1_passOver 28 = .ok (.isub, 1) := by decide +kernel
theorem dX1_passOver_29 : decode cX1_passOver 29 = .ok (.iconst 1, 1) := by decide +kernel
theorem dX1_passOver_30 : decode cX1_passOver 30 = .ok (.isub, 1) := by decide +kernel
theorem dX1_passOver_31 : decode cX1_passOver 31 = .ok (.istore 5, 2) := by decide +kernel
theorem dX1_passOver_33 : decode cX1_passOver 33 = .ok (.aload_n 1, 1) := by decide +kernel
theorem dX1_passOver_34 : decode cX1_passOver 34 = .ok (.getfield 96, 3) := by decide +kernel
theorem dX1_passOver_37 : decode cX1_passOver 37 = .ok (.iload_n 3, 1) := by decide +kernel
theorem dX1_passOver_38 : decode cX1_passOver 38 = .ok (.if_icmp .gt 15, 3) := by decide +kernel
theorem dX1_passOver_41 : decode cX1_passOver 41 = .ok (.aload_n 1, 1) := by decide +kernel
theorem dX1_passOver_42 : decode cX1_passOver 42 = .ok (.getfield 96, 3) := by decide +kernel
theorem dX1_passOver_45 : decode cX1_passOver 45 = .ok (.iload_n 2, 1) := by decide +kernel
theorem dX1_passOver_46 : decode cX1_passOver 46 = .ok (.if_icmp .gt 7, 3) := by decide +kernel
theorem dX1_passOver_49 : decode cX1_passOver 49 = .ok (.iconst 1, 1) := by decide +kernel
theorem dX1_passOver_50 : decode cX1_passOver 50 = .ok (.goto 4, 3) := by decide +kernel
theorem dX1_passOver_53 : decode cX1_passOver 53 = .ok (.iconst 0, 1) := by decide +kernel
theorem dX1_passOver_54 : decode cX1_passOver 54 = .ok (.istore 6, 2) := by decide +kernel
theorem dX1_passOver_56 : decode cX1_passOver 56 = .ok (.iload 5, 2) := by decide +kernel
theorem dX1_passOver_58 : decode cX1_passOver 58 = .ok (.aload 4, 2) := by decide +kernel
theorem dX1_passOver_60 : decode cX1_passOver 60 = .ok (.getfield 158, 3) := by decide +kernel
theorem dX1_passOver_63 : decode cX1_passOver 63 = .ok (.if_icmp .lt 17, 3) := by decide +kernel
theorem dX1_passOver_66 : decode cX1_passOver 66 = .ok (.iload 6, 2) := by decide +kernel
theorem dX1_passOver_68 : decode cX1_passOver 68 = .ok (.ifCond .eq 20, 3) := by decide +kernel
theorem dX1_passOver_71 : decode cX1_passOver 71 = .ok (.iload 5, 2) := by decide +kernel
theorem dX1_passOver_73 : decode cX1_passOver 73 = .ok (.aload_n 1, 1) := by decide +kernel
theorem dX1_passOver_74 : decode cX1_passOver 74 = .ok (.getfield 96, 3) := by decide +kernel
theorem dX1_passOver_77 : decode cX1_passOver 77 = .ok (.if_icmp .ge 11, 3) := by decide +kernel
theorem dX1_passOver_80 : decode cX1_passOver 80 = .ok (.aload_n 0, 1) := by decide +kernel
theorem dX1_passOver_81 : decode cX1_passOver 81 = .ok (.iload_n 2, 1) := by decide +kernel
theorem dX1_passOver_82 : decode cX1_passOver 82 = .ok (.invokevirtual 210, 3) := by decide +kernel
theorem dX1_passOver_85 : decode cX1_passOver 85 = .ok (.goto 13, 3) := by decide +kernel
theorem dX1_passOver_88 : decode cX1_passOver 88 = .ok (.aload_n 0, 1) := by decide +kernel
theorem dX1_passOver_89 : decode cX1_passOver 89 = .ok (.dup, 1) := by decide +kernel
theorem dX1_passOver_90 : decode cX1_passOver 90 = .ok (.getfield 48, 3) := by decide +kernel
theorem dX1_passOver_93 : decode cX1_passOver 93 = .ok (.iconst 1, 1) := by decide +kernel
theorem dX1_passOver_94 : decode cX1_passOver 94 = .ok (.iadd, 1) := by decide +kernel
theorem dX1_passOver_95 : decode cX1_passOver 95 = .ok (.putfield 48, 3) := by decide +kernel
theorem dX1_passOver_98 : decode cX1_passOver 98 = .ok (.return_, 1) := by decide +kernel
theorem dX1_putStanza_0 : decode cX1_putStanza 0 = .ok (.aload_n 1, 1) := by decide +kernel
theorem dX1_putStanza_1 : decode cX1_putStanza 1 = .ok (.getfield 95, 3) := by decide +kernel
theorem dX1_putStanza_4 : decode cX1_putStanza 4 = .ok (.istore_n 3, 1) := by decide +kernel
theorem dX1_putStanza_5 : decode cX1_putStanza 5 = .ok (.iload_n 3, 1) := by decide +kernel
theorem dX1_putStanza_6 : decode cX1_putStanza 6 = .ok (.aload_n 1, 1) := by decide +kernel
theorem dX1_putStanza_7 : decode cX1_putStanza 7 = .ok (.getfield 95, 3) := by decide +kernel
theorem dX1_putStanza_10 : decode cX1_putStanza 10 = .ok (.aload_n 1, 1) := by decide +kernel
theorem dX1_putStanza_11 : decode cX1_putStanza 11 = .ok (.getfield 96, 3) := by decide +kernel
theorem dX1_putStanza_14 : decode cX1_putStanza 14 = .ok (.iadd, 1) := by decide +kernel
theorem dX1_putStanza_15 : decode cX1_putStanza 15 = .ok (.if_icmp .ge 96, 3) := by decide +kernel
theorem dX1_putStanza_18 : decode cX1_putStanza 18 = .ok (.aload_n 0, 1) := by decide +kernel
theorem dX1_putStanza_19 : decode cX1_putStanza 19 = .ok (.iload_n 3, 1) := by decide +kernel
theorem dX1_putStanza_20 : decode cX1_putStanza 20 = .ok (.invokevirtual 56, 3) := by decide +kernel
theorem dX1_putStanza_23 : decode cX1_putStanza 23 = .ok (.astore 4, 2) := by decide +kernel
theorem dX1_putStanza_25 : decode cX1_putStanza 25 = .ok (.aload 4, 2) := by decide +kernel
theorem dX1_putStanza_27 : decode cX1_putStanza 27 = .ok (.ifnonnull 7, 3) := by decide +kernel
theorem dX1_putStanza_30 : decode cX1_putStanza 30 = .ok (.aconst_null, 1) := by decide +kernel
theorem dX1_putStanza_31 : decode cX1_putStanza 31 = .ok (.goto 12, 3) := by decide +kernel
theorem dX1_putStanza_34 : decode cX1_putStanza 34 = .ok (.aload_n 0, 1) := by decide +kernel
theorem dX1_putStanza_35 : decode cX1_putStanza 35 = .ok (.aload 4, 2) := by decide +kernel
theorem dX1_putStanza_37 : decode cX1_putStanza 37 = .ok (.getfield 197, 3) := by decide +kernel
theorem dX1_putStanza_40 : decode cX1_putStanza 40 = .ok (.invokevirtual 78, 3) := by decide +kernel
theorem dX1_putStanza_43 : decode cX1_putStanza 43 = .ok (.astore 5, 2) := by decide +kernel
theorem dX1_putStanza_45 : decode cX1_putStanza 45 = .ok (.aload 5, 2) := by decide +kernel
theorem dX1_putStanza_47 : decode cX1_putStanza 47 = .ok (.ifnull 58, 3) := by decide +kernel
theorem dX1_putStanza_50 : decode cX1_putStanza 50 = .ok (.aload 4, 2) := by decide +kernel
theorem dX1_putStanza_52 : decode cX1_putStanza 52 = .ok (.getfield 214, 3) := by decide +kernel
theorem dX1_putStanza_55 : decode cX1_putStanza 55 = .ok (.ifCond .ne 15, 3) := by decide +kernel
theorem dX1_putStanza_58 : decode cX1_putStanza 58 = .ok (.iload_n 3, 1) := by decide +kernel
theorem dX1_putStanza_59 : decode cX1_putStanza 59 = .ok (.aload_n 1, 1) := by decide +kernel
theorem dX1_putStanza_60 : decode cX1_putStanza 60 = .ok (.getfield 95, 3) := by decide +kernel
theorem dX1_putStanza_63 : decode cX1_putStanza 63 = .ok (.if_icmp .le 7, 3) := by decide +kernel
theorem dX1_putStanza_66 : decode cX1_putStanza 66 = .ok (.iconst 1, 1) := by decide +kernel
theorem dX1_putStanza_67 : decode cX1_putStanza 67 = .ok (.goto 4, 3) := by decide +kernel
theorem dX1_putStanza_70 : decode cX1_putStanza 70 = .ok (.iconst 0, 1) := by decide +kernel
theorem dX1_putStanza_71 : decode cX1_putStanza 71 = .ok (.istore 6, 2) := by decide +kernel
theorem dX1_putStanza_73 : decode cX1_putStanza 73 = .ok (.iload 6, 2) := by decide +kernel
theorem dX1_putStanza_75 : decode cX1_putStanza 75 = .ok (.ifCond .eq 22, 3) := by decide +kernel
theorem dX1_putStanza_78 : decode cX1_putStanza 78 = .ok (.iload_n 2, 1) := by decide +kernel
theorem dX1_putStanza_79 : decode cX1_putStanza 79 = .ok (.aload_n 0, 1) := by decide +kernel
theorem dX1_putStanza_80 : decode cX1_putStanza 80 = .ok (.getfield 48, 3) := by decide +kernel
theorem dX1_putStanza_83 : decode cX1_putStanza 83 = .ok (.isub, 1) := by decide +kernel
theorem dX1_putStanza_84 : decode cX1_putStanza 84 = .ok (.aload 5, 2) := by decide +kernel
theorem dX1_putStanza_86 : decode cX1_putStanza 86 = .ok (.getfield 158, 3) := by decide +kernel
theorem dX1_putStanza_89 : decode cX1_putStanza 89 = .ok (.if_icmp .ge 8, 3) := by decide +kernel
theorem dX1_putStanza_92 : decode cX1_putStanza 92 = .ok (.aload_n 0, 1) := by decide +kernel
theorem dX1_putStanza_93 : decode cX1_putStanza 93 = .ok (.iload_n 2, 1) := by decide +kernel
theorem dX1_putStanza_94 : decode cX1_putStanza 94 = .ok (.invokevirtual 210, 3) := by decide +kernel
theorem dX1_putStanza_97 : decode cX1_putStanza 97 = .ok (.aload_n 0, 1) := by decide +kernel
theorem dX1_putStanza_98 : decode cX1_putStanza 98 = .ok (.aload 4, 2) := by decide +kernel
theorem dX1_putStanza_100 : decode cX1_putStanza 100 = .ok (.iload_n 3, 1) := by decide +kernel
theorem dX1_putStanza_101 : decode cX1_putStanza 101 = .ok (.iload_n 2, 1) := by decide +kernel
theorem dX1_putStanza_102 : decode cX1_putStanza 102 = .ok (.invokevirtual 217, 3) := by decide +kernel
theorem dX1_putStanza_105 : decode cX1_putStanza 105 = .ok (.iinc 3 1, 3) := by decide +kernel
theorem dX1_putStanza_108 : decode cX1_putStanza 108 = .ok (.goto (-103), 3) := by decide +kernel
theorem dX1_putStanza_111 : decode cX1_putStanza 111 = .ok (.return_, 1) := by decide +kernel
theorem dX1_putRow_0 : decode cX1_putRow 0 = .ok (.aload_n 0, 1) := by decide +kernel
theorem dX1_putRow_1 : decode cX1_putRow 1 = .ok (.getfield 48, 3) := by decide +kernel
theorem dX1_putRow_4 : decode cX1_putRow 4 = .ok (.iload_n 3, 1) := by decide +kernel
theorem dX1_putRow_5 : decode cX1_putRow 5 = .ok (.if_icmp .ge 16, 3) := by decide +kernel
theorem dX1_putRow_8 : decode cX1_putRow 8 = .ok (.aload_n 0, 1) := by decide +kernel
theorem dX1_putRow_9 : decode cX1_putRow 9 = .ok (.aload_n 0, 1) := by decide +kernel
theorem dX1_putRow_10 : decode cX1_putRow 10 = .ok (.getfield 42, 3) := by decide +kernel
theorem dX1_putRow_13 : decode cX1_putRow 13 = .ok (.iconst 1, 1) := by decide +kernel
theorem dX1_putRow_14 : decode cX1_putRow 14 = .ok (.isub, 1) := by decide +kernel
theorem dX1_putRow_15 : decode cX1_putRow 15 = .ok (.invokevirtual 71, 3) := by decide +kernel
theorem dX1_putRow_18 : decode cX1_putRow 18 = .ok (.goto 4, 3) := by decide +kernel
theorem dX1_putRow_21 : decode cX1_putRow 21 = .ok (.aconst_null, 1) := by decide +kernel
theorem dX1_putRow_22 : decode cX1_putRow 22 = .ok (.astore 4, 2) := by decide +kernel
theorem dX1_putRow_24 : decode cX1_putRow 24 = .ok (.aload 4, 2) := by decide +kernel
theorem dX1_putRow_26 : decode cX1_putRow 26 = .ok (.ifnonnull 15, 3) := by decide +kernel
theorem dX1_putRow_29 : decode cX1_putRow 29 = .ok (.aload_n 0, 1) := by decide +kernel
theorem dX1_putRow_30 : decode cX1_putRow 30 = .ok (.iload_n 2, 1) := by decide +kernel
theorem dX1_putRow_31 : decode cX1_putRow 31 = .ok (.invokevirtual 221, 3) := by decide +kernel
theorem dX1_putRow_34 : decode cX1_putRow 34 = .ok (.astore 4, 2) := by decide +kernel
theorem dX1_putRow_36 : decode cX1_putRow 36 = .ok (.aload_n 0, 1) := by decide +kernel
theorem dX1_putRow_37 : decode cX1_putRow 37 = .ok (.iconst 0, 1) := by decide +kernel
theorem dX1_putRow_38 : decode cX1_putRow 38 = .ok (.putfield 48, 3) := by decide +kernel
theorem dX1_putRow_41 : decode cX1_putRow 41 = .ok (.aload_n 1, 1) := by decide +kernel
theorem dX1_putRow_42 : decode cX1_putRow 42 = .ok (.aload_n 0, 1) := by decide +kernel
theorem dX1_putRow_43 : decode cX1_putRow 43 = .ok (.getfield 42, 3) := by decide +kernel
theorem dX1_putRow_46 : decode cX1_putRow 46 = .ok (.iconst 1, 1) := by decide +kernel
theorem dX1_putRow_47 : decode cX1_putRow 47 = .ok (.isub, 1) := by decide +kernel
theorem dX1_putRow_48 : decode cX1_putRow 48 = .ok (.putfield 224, 3) := by decide +kernel
theorem dX1_putRow_51 : decode cX1_putRow 51 = .ok (.aload_n 1, 1) := by decide +kernel
theorem dX1_putRow_52 : decode cX1_putRow 52 = .ok (.aload_n 0, 1) := by decide +kernel
theorem dX1_putRow_53 : decode cX1_putRow 53 = .ok (.getfield 48, 3) := by decide +kernel
theorem dX1_putRow_56 : decode cX1_putRow 56 = .ok (.putfield 60, 3) := by decide +kernel
theorem dX1_putRow_59 : decode cX1_putRow 59 = .ok (.aload_n 0, 1) := by decide +kernel
theorem dX1_putRow_60 : decode cX1_putRow 60 = .ok (.dup, 1) := by decide +kernel
theorem dX1_putRow_61 : decode cX1_putRow 61 = .ok (.getfield 48, 3) := by decide +kernel
theorem dX1_putRow_64 : decode cX1_putRow 64 = .ok (.iconst 1, 1) := by decide +kernel
theorem dX1_putRow_65 : decode cX1_putRow 65 = .ok (.iadd, 1) := by decide +kernel
theorem dX1_putRow_66 : decode cX1_putRow 66 = .ok (.putfield 48, 3) := by decide +kernel
theorem dX1_putRow_69 : decode cX1_putRow 69 = .ok (.aload 4, 2) := by decide +kernel
theorem dX1_putRow_71 : decode cX1_putRow 71 = .ok (.dup, 1) := by decide +kernel
theorem dX1_putRow_72 : decode cX1_putRow 72 = .ok (.getfield 54, 3) := by decide +kernel
theorem dX1_putRow_75 : decode cX1_putRow 75 = .ok (.iconst 1, 1) := by decide +kernel
theorem dX1_putRow_76 : decode cX1_putRow 76 = .ok (.iadd, 1) := by decide +kernel
theorem dX1_putRow_77 : decode cX1_putRow 77 = .ok (.putfield 54, 3) := by decide +kernel
theorem dX1_putRow_80 : decode cX1_putRow 80 = .ok (.aload 4, 2) := by decide +kernel
theorem dX1_putRow_82 : decode cX1_putRow 82 = .ok (.aload_n 0, 1) := by decide +kernel
theorem dX1_putRow_83 : decode cX1_putRow 83 = .ok (.getfield 48, 3) := by decide +kernel
theorem dX1_putRow_86 : decode cX1_putRow 86 = .ok (.putfield 227, 3) := by decide +kernel
theorem dX1_putRow_89 : decode cX1_putRow 89 = .ok (.aload 4, 2) := by decide +kernel
theorem dX1_putRow_91 : decode cX1_putRow 91 = .ok (.dup, 1) := by decide +kernel
theorem dX1_putRow_92 : decode cX1_putRow 92 = .ok (.getfield 230, 3) := by decide +kernel
theorem dX1_putRow_95 : decode cX1_putRow 95 = .ok (.aload_n 1, 1) := by decide +kernel
theorem dX1_putRow_96 : decode cX1_putRow 96 = .ok (.getfield 214, 3) := by decide +kernel
theorem dX1_putRow_99 : decode cX1_putRow 99 = .ok (.ifCond .ne 7, 3) := by decide +kernel
theorem dX1_putRow_102 : decode cX1_putRow 102 = .ok (.iconst 1, 1) := by decide +kernel
theorem dX1_putRow_103 : decode cX1_putRow 103 = .ok (.goto 4, 3) := by decide +kernel
theorem dX1_putRow_106 : decode cX1_putRow 106 = .ok (.iconst 0, 1) := by decide +kernel
theorem dX1_putRow_107 : decode cX1_putRow 107 = .ok (.invokestatic 67, 3) := by decide +kernel
theorem dX1_putRow_110 : decode cX1_putRow 110 = .ok (.iadd, 1) := by decide +kernel
theorem dX1_putRow_111 : decode cX1_putRow 111 = .ok (.putfield 230, 3) := by decide +kernel
theorem dX1_putRow_114 : decode cX1_putRow 114 = .ok (.return_, 1) := by decide +kernel
theorem dX1_closePage_0 : decode cX1_closePage 0 = .ok (.aload_n 0, 1) := by decide +kernel
theorem dX1_closePage_1 : decode cX1_closePage 1 = .ok (.iload_n 1, 1) := by decide +kernel
theorem dX1_closePage_2 : decode cX1_closePage 2 = .ok (.putfield 48, 3) := by decide +kernel
theorem dX1_closePage_5 : decode cX1_closePage 5 = .ok (.return_, 1) := by decide +kernel
theorem dX1_beginsWithStanza_0 : decode cX1_beginsWithStanza 0 = .ok (.aload_n 1, 1) := by decide +kernel
theorem dX1_beginsWithStanza_1 : decode cX1_beginsWithStanza 1 = .ok (.ifnonnull 5, 3) := by decide +kernel
theorem dX1_beginsWithStanza_4 : decode cX1_beginsWithStanza 4 = .ok (.iconst 0, 1) := by decide +kernel
theorem dX1_beginsWithStanza_5 : decode cX1_beginsWithStanza 5 = .ok (.ireturn, 1) := by decide +kernel
theorem dX1_beginsWithStanza_6 : decode cX1_beginsWithStanza 6 = .ok (.aload_n 0, 1) := by decide +kernel
theorem dX1_beginsWithStanza_7 : decode cX1_beginsWithStanza 7 = .ok (.aload_n 1, 1) := by decide +kernel
theorem dX1_beginsWithStanza_8 : decode cX1_beginsWithStanza 8 = .ok (.getfield 51, 3) := by decide +kernel
theorem dX1_beginsWithStanza_11 : decode cX1_beginsWithStanza 11 = .ok (.invokevirtual 56, 3) := by decide +kernel
theorem dX1_beginsWithStanza_14 : decode cX1_beginsWithStanza 14 = .ok (.astore_n 2, 1) := by decide +kernel
theorem dX1_beginsWithStanza_15 : decode cX1_beginsWithStanza 15 = .ok (.aload_n 2, 1) := by decide +kernel
theorem dX1_beginsWithStanza_16 : decode cX1_beginsWithStanza 16 = .ok (.ifnonnull 7, 3) := by decide +kernel
theorem dX1_beginsWithStanza_19 : decode cX1_beginsWithStanza 19 = .ok (.aconst_null, 1) := by decide +kernel
theorem dX1_beginsWithStanza_20 : decode cX1_beginsWithStanza 20 = .ok (.goto 11, 3) := by decide +kernel
theorem dX1_beginsWithStanza_23 : decode cX1_beginsWithStanza 23 = .ok (.aload_n 0, 1) := by decide +kernel
theorem dX1_beginsWithStanza_24 : decode cX1_beginsWithStanza 24 = .ok (.aload_n 2, 1) := by decide +kernel
theorem dX1_beginsWithStanza_25 : decode cX1_beginsWithStanza 25 = .ok (.getfield 197, 3) := by decide +kernel
theorem dX1_beginsWithStanza_28 : decode cX1_beginsWithStanza 28 = .ok (.invokevirtual 78, 3) := by decide +kernel
theorem dX1_beginsWithStanza_31 : decode cX1_beginsWithStanza 31 = .ok (.astore_n 3, 1) := by decide +kernel
theorem dX1_beginsWithStanza_32 : decode cX1_beginsWithStanza 32 = .ok (.aload_n 3, 1) := by decide +kernel
theorem dX1_beginsWithStanza_33 : decode cX1_beginsWithStanza 33 = .ok (.ifnonnull 7, 3) := by decide +kernel
theorem dX1_beginsWithStanza_36 : decode cX1_beginsWithStanza 36 = .ok (.aconst_null, 1) := by decide +kernel
theorem dX1_beginsWithStanza_37 : decode cX1_beginsWithStanza 37 = .ok (.goto 11, 3) := by decide +kernel
theorem dX1_beginsWithStanza_40 : decode cX1_beginsWithStanza 40 = .ok (.aload_n 0, 1) := by decide +kernel
theorem dX1_beginsWithStanza_41 : decode cX1_beginsWithStanza 41 = .ok (.aload_n 3, 1) := by decide +kernel
theorem dX1_beginsWithStanza_42 : decode cX1_beginsWithStanza 42 = .ok (.getfield 233, 3) := by decide +kernel
theorem dX1_beginsWithStanza_45 : decode cX1_beginsWithStanza 45 = .ok (.invokevirtual 159, 3) := by decide +kernel
theorem dX1_beginsWithStanza_48 : decode cX1_beginsWithStanza 48 = .ok (.astore 4, 2) := by decide +kernel
theorem dX1_beginsWithStanza_50 : decode cX1_beginsWithStanza 50 = .ok (.aload 4, 2) := by decide +kernel
theorem dX1_beginsWithStanza_52 : decode cX1_beginsWithStanza 52 = .ok (.ifnull 19, 3) := by decide +kernel
theorem dX1_beginsWithStanza_55 : decode cX1_beginsWithStanza 55 = .ok (.aload 4, 2) := by decide +kernel
theorem dX1_beginsWithStanza_57 : decode cX1_beginsWithStanza 57 = .ok (.getfield 95, 3) := by decide +kernel
theorem dX1_beginsWithStanza_60 : decode cX1_beginsWithStanza 60 = .ok (.aload_n 1, 1) := by decide +kernel
theorem dX1_beginsWithStanza_61 : decode cX1_beginsWithStanza 61 = .ok (.getfield 51, 3) := by decide +kernel
theorem dX1_beginsWithStanza_64 : decode cX1_beginsWithStanza 64 = .ok (.if_icmp .ne 7, 3) := by decide +kernel
theorem dX1_beginsWithStanza_67 : decode cX1_beginsWithStanza 67 = .ok (.iconst 1, 1) := by decide +kernel
theorem dX1_beginsWithStanza_68 : decode cX1_beginsWithStanza 68 = .ok (.goto 4, 3) := by decide +kernel
theorem dX1_beginsWithStanza_71 : decode cX1_beginsWithStanza 71 = .ok (.iconst 0, 1) := by decide +kernel
theorem dX1_beginsWithStanza_72 : decode cX1_beginsWithStanza 72 = .ok (.ireturn, 1) := by decide +kernel
theorem dX1_widthOf_0 : decode cX1_widthOf 0 = .ok (.aload_n 0, 1) := by decide +kernel
theorem dX1_widthOf_1 : decode cX1_widthOf 1 = .ok (.iload_n 1, 1) := by decide +kernel
theorem dX1_widthOf_2 : decode cX1_widthOf 2 = .ok (.invokevirtual 56, 3) := by decide +kernel
theorem dX1_widthOf_5 : decode cX1_widthOf 5 = .ok (.astore_n 2, 1) := by decide +kernel
theorem dX1_widthOf_6 : decode cX1_widthOf 6 = .ok (.aload_n 2, 1) := by decide +kernel
theorem dX1_widthOf_7 : decode cX1_widthOf 7 = .ok (.ifnonnull 7, 3) := by decide +kernel
theorem dX1_widthOf_10 : decode cX1_widthOf 10 = .ok (.iconst 0, 1) := by decide +kernel
theorem dX1_widthOf_11 : decode cX1_widthOf 11 = .ok (.goto 7, 3) := by decide +kernel
theorem dX1_widthOf_14 : decode cX1_widthOf 14 = .ok (.aload_n 2, 1) := by decide +kernel
theorem dX1_widthOf_15 : decode cX1_widthOf 15 = .ok (.invokevirtual 193, 3) := by decide +kernel
theorem dX1_widthOf_18 : decode cX1_widthOf 18 = .ok (.ireturn, 1) := by decide +kernel
theorem dX1_addRow_0 : decode cX1_addRow 0 = .ok (.aload_n 0, 1) := by decide +kernel
theorem dX1_addRow_1 : decode cX1_addRow 1 = .ok (.aload_n 0, 1) := by decide +kernel
theorem dX1_addRow_2 : decode cX1_addRow 2 = .ok (.getfield 35, 3) := by decide +kernel
theorem dX1_addRow_5 : decode cX1_addRow 5 = .ok (.iconst 1, 1) := by decide +kernel
theorem dX1_addRow_6 : decode cX1_addRow 6 = .ok (.isub, 1) := by decide +kernel
theorem dX1_addRow_7 : decode cX1_addRow 7 = .ok (.invokevirtual 56, 3) := by decide +kernel
theorem dX1_addRow_10 : decode cX1_addRow 10 = .ok (.astore 4, 2) := by decide +kernel
theorem dX1_addRow_12 : decode cX1_addRow 12 = .ok (.aload 4, 2) := by decide +kernel
theorem dX1_addRow_14 : decode cX1_addRow 14 = .ok (.ifnull 22, 3) := by decide +kernel
theorem dX1_addRow_17 : decode cX1_addRow 17 = .ok (.aload 4, 2) := by decide +kernel
theorem dX1_addRow_19 : decode cX1_addRow 19 = .ok (.getfield 197, 3) := by decide +kernel
theorem dX1_addRow_22 : decode cX1_addRow 22 = .ok (.iload_n 1, 1) := by decide +kernel
theorem dX1_addRow_23 : decode cX1_addRow 23 = .ok (.if_icmp .ne 13, 3) := by decide +kernel
theorem dX1_addRow_26 : decode cX1_addRow 26 = .ok (.aload 4, 2) := by decide +kernel
theorem dX1_addRow_28 : decode cX1_addRow 28 = .ok (.getfield 214, 3) := by decide +kernel
theorem dX1_addRow_31 : decode cX1_addRow 31 = .ok (.iconst 1, 1) := by decide +kernel
theorem dX1_addRow_32 : decode cX1_addRow 32 = .ok (.iadd, 1) := by decide +kernel
theorem dX1_addRow_33 : decode cX1_addRow 33 = .ok (.goto 4, 3) := by decide +kernel
theorem dX1_addRow_36 : decode cX1_addRow 36 = .ok (.iconst 0, 1) := by decide +kernel
theorem dX1_addRow_37 : decode cX1_addRow 37 = .ok (.istore 5, 2) := by decide +kernel
theorem dX1_addRow_39 : decode cX1_addRow 39 = .ok (.aload_n 0, 1) := by decide +kernel
theorem dX1_addRow_40 : decode cX1_addRow 40 = .ok (.getfield 35, 3) := by decide +kernel
theorem dX1_addRow_43 : decode cX1_addRow 43 = .ok (.ifCond .lt 15, 3) := by decide +kernel
theorem dX1_addRow_46 : decode cX1_addRow 46 = .ok (.aload_n 0, 1) := by decide +kernel
theorem dX1_addRow_47 : decode cX1_addRow 47 = .ok (.getfield 35, 3) := by decide +kernel
theorem dX1_addRow_50 : decode cX1_addRow 50 = .ok (.aload_n 0, 1) := by decide +kernel
theorem dX1_addRow_51 : decode cX1_addRow 51 = .ok (.getfield 11, 3) := by decide +kernel
theorem dX1_addRow_54 : decode cX1_addRow 54 = .ok (.arraylength, 1) := by decide +kernel
theorem dX1_addRow_55 : decode cX1_addRow 55 = .ok (.if_icmp .lt 11, 3) := by decide +kernel
theorem dX1_addRow_58 : decode cX1_addRow 58 = .ok (.new 9, 3) := by decide +kernel
theorem dX1_addRow_61 : decode cX1_addRow 61 = .ok (.dup, 1) := by decide +kernel
theorem dX1_addRow_62 : decode cX1_addRow 62 = .ok (.invokespecial 236, 3) := by decide +kernel
theorem dX1_addRow_65 : decode cX1_addRow 65 = .ok (.areturn, 1) := by decide +kernel
theorem dX1_addRow_66 : decode cX1_addRow 66 = .ok (.aload_n 0, 1) := by decide +kernel
theorem dX1_addRow_67 : decode cX1_addRow 67 = .ok (.getfield 11, 3) := by decide +kernel
theorem dX1_addRow_70 : decode cX1_addRow 70 = .ok (.aload_n 0, 1) := by decide +kernel
theorem dX1_addRow_71 : decode cX1_addRow 71 = .ok (.getfield 35, 3) := by decide +kernel
theorem dX1_addRow_74 : decode cX1_addRow 74 = .ok (.aaload, 1) := by decide +kernel
theorem dX1_addRow_75 : decode cX1_addRow 75 = .ok (.astore 6, 2) := by decide +kernel
theorem dX1_addRow_77 : decode cX1_addRow 77 = .ok (.aload 6, 2) := by decide +kernel
theorem dX1_addRow_79 : decode cX1_addRow 79 = .ok (.ifnonnull 23, 3) := by decide +kernel
theorem dX1_addRow_82 : decode cX1_addRow 82 = .ok (.new 9, 3) := by decide +kernel
theorem dX1_addRow_85 : decode cX1_addRow 85 = .ok (.dup, 1) := by decide +kernel
theorem dX1_addRow_86 : decode cX1_addRow 86 = .ok (.invokespecial 236, 3) := by decide +kernel
theorem dX1_addRow_89 : decode cX1_addRow 89 = .ok (.astore 6, 2) := by decide +kernel
theorem dX1_addRow_91 : decode cX1_addRow 91 = .ok (.aload_n 0, 1) := by decide +kernel
theorem dX1_addRow_92 : decode cX1_addRow 92 = .ok (.getfield 11, 3) := by decide +kernel
theorem dX1_addRow_95 : decode cX1_addRow 95 = .ok (.aload_n 0, 1) := by decide +kernel
theorem dX1_addRow_96 : decode cX1_addRow 96 = .ok (.getfield 35, 3) := by decide +kernel
theorem dX1_addRow_99 : decode cX1_addRow 99 = .ok (.aload 6, 2) := by decide +kernel
theorem dX1_addRow_101 : decode cX1_addRow 101 = .ok (.aastore, 1) := by decide +kernel
theorem dX1_addRow_102 : decode cX1_addRow 102 = .ok (.aload_n 0, 1) := by decide +kernel
theorem dX1_addRow_103 : decode cX1_addRow 103 = .ok (.dup, 1) := by decide +kernel
theorem dX1_addRow_104 : decode cX1_addRow 104 = .ok (.getfield 35, 3) := by decide +kernel
theorem dX1_addRow_107 : decode cX1_addRow 107 = .ok (.iconst 1, 1) := by decide +kernel
theorem dX1_addRow_108 : decode cX1_addRow 108 = .ok (.iadd, 1) := by decide +kernel
theorem dX1_addRow_109 : decode cX1_addRow 109 = .ok (.putfield 35, 3) := by decide +kernel
theorem dX1_addRow_112 : decode cX1_addRow 112 = .ok (.aload 6, 2) := by decide +kernel
theorem dX1_addRow_114 : decode cX1_addRow 114 = .ok (.iload_n 1, 1) := by decide +kernel
theorem dX1_addRow_115 : decode cX1_addRow 115 = .ok (.putfield 197, 3) := by decide +kernel
theorem dX1_addRow_118 : decode cX1_addRow 118 = .ok (.aload 6, 2) := by decide +kernel
theorem dX1_addRow_120 : decode cX1_addRow 120 = .ok (.iload 5, 2) := by decide +kernel
theorem dX1_addRow_122 : decode cX1_addRow 122 = .ok (.putfield 214, 3) := by decide +kernel
theorem dX1_addRow_125 : decode cX1_addRow 125 = .ok (.aload 6, 2) := by decide +kernel
theorem dX1_addRow_127 : decode cX1_addRow 127 = .ok (.iload_n 2, 1) := by decide +kernel
theorem dX1_addRow_128 : decode cX1_addRow 128 = .ok (.putfield 204, 3) := by decide +kernel
theorem dX1_addRow_131 : decode cX1_addRow 131 = .ok (.aload 6, 2) := by decide +kernel
theorem dX1_addRow_133 : decode cX1_addRow 133 = .ok (.iload_n 3, 1) := by decide +kernel
theorem dX1_addRow_134 : decode cX1_addRow 134 = .ok (.putfield 207, 3) := by decide +kernel
theorem dX1_addRow_137 : decode cX1_addRow 137 = .ok (.aload 6, 2) := by decide +kernel
theorem dX1_addRow_139 : decode cX1_addRow 139 = .ok (.iconst 0, 1) := by decide +kernel
theorem dX1_addRow_140 : decode cX1_addRow 140 = .ok (.putfield 190, 3) := by decide +kernel
theorem dX1_addRow_143 : decode cX1_addRow 143 = .ok (.aload 6, 2) := by decide +kernel
theorem dX1_addRow_145 : decode cX1_addRow 145 = .ok (.iconst 0, 1) := by decide +kernel
theorem dX1_addRow_146 : decode cX1_addRow 146 = .ok (.putfield 181, 3) := by decide +kernel
theorem dX1_addRow_149 : decode cX1_addRow 149 = .ok (.aload 6, 2) := by decide +kernel
theorem dX1_addRow_151 : decode cX1_addRow 151 = .ok (.iconst 0, 1) := by decide +kernel
theorem dX1_addRow_152 : decode cX1_addRow 152 = .ok (.putfield 63, 3) := by decide +kernel
theorem dX1_addRow_155 : decode cX1_addRow 155 = .ok (.aload 6, 2) := by decide +kernel
theorem dX1_addRow_157 : decode cX1_addRow 157 = .ok (.areturn, 1) := by decide +kernel
theorem dX1_addSpan_0 : decode cX1_addSpan 0 = .ok (.aload_n 0, 1) := by decide +kernel
theorem dX1_addSpan_1 : decode cX1_addSpan 1 = .ok (.invokevirtual 237, 3) := by decide +kernel
theorem dX1_addSpan_4 : decode cX1_addSpan 4 = .ok (.istore_n 3, 1) := by decide +kernel
theorem dX1_addSpan_5 : decode cX1_addSpan 5 = .ok (.aload_n 0, 1) := by decide +kernel
theorem dX1_addSpan_6 : decode cX1_addSpan 6 = .ok (.getfield 45, 3) := by decide +kernel
theorem dX1_addSpan_9 : decode cX1_addSpan 9 = .ok (.ifCond .lt 15, 3) := by decide +kernel
theorem dX1_addSpan_12 : decode cX1_addSpan 12 = .ok (.aload_n 0, 1) := by decide +kernel
theorem dX1_addSpan_13 : decode cX1_addSpan 13 = .ok (.getfield 45, 3) := by decide +kernel
theorem dX1_addSpan_16 : decode cX1_addSpan 16 = .ok (.aload_n 0, 1) := by decide +kernel
theorem dX1_addSpan_17 : decode cX1_addSpan 17 = .ok (.getfield 19, 3) := by decide +kernel
theorem dX1_addSpan_20 : decode cX1_addSpan 20 = .ok (.arraylength, 1) := by decide +kernel
theorem dX1_addSpan_21 : decode cX1_addSpan 21 = .ok (.if_icmp .lt 11, 3) := by decide +kernel
theorem dX1_addSpan_24 : decode cX1_addSpan 24 = .ok (.new 17, 3) := by decide +kernel
theorem dX1_addSpan_27 : decode cX1_addSpan 27 = .ok (.dup, 1) := by decide +kernel
theorem dX1_addSpan_28 : decode cX1_addSpan 28 = .ok (.invokespecial 240, 3) := by decide +kernel
theorem dX1_addSpan_31 : decode cX1_addSpan 31 = .ok (.areturn, 1) := by decide +kernel
theorem dX1_addSpan_32 : decode cX1_addSpan 32 = .ok (.aload_n 0, 1) := by decide +kernel
theorem dX1_addSpan_33 : decode cX1_addSpan 33 = .ok (.getfield 19, 3) := by decide +kernel
theorem dX1_addSpan_36 : decode cX1_addSpan 36 = .ok (.aload_n 0, 1) := by decide +kernel
theorem dX1_addSpan_37 : decode cX1_addSpan 37 = .ok (.getfield 45, 3) := by decide +kernel
theorem dX1_addSpan_40 : decode cX1_addSpan 40 = .ok (.aaload, 1) := by decide +kernel
theorem dX1_addSpan_41 : decode cX1_addSpan 41 = .ok (.astore 4, 2) := by decide +kernel
theorem dX1_addSpan_43 : decode cX1_addSpan 43 = .ok (.aload 4, 2) := by decide +kernel
theorem dX1_addSpan_45 : decode cX1_addSpan 45 = .ok (.ifnonnull 23, 3) := by decide +kernel
theorem dX1_addSpan_48 : decode cX1_addSpan 48 = .ok (.new 17, 3) := by decide +kernel
theorem dX1_addSpan_51 : decode cX1_addSpan 51 = .ok (.dup, 1) := by decide +kernel
theorem dX1_addSpan_52 : decode cX1_addSpan 52 = .ok (.invokespecial 240, 3) := by decide +kernel
theorem dX1_addSpan_55 : decode cX1_addSpan 55 = .ok (.astore 4, 2) := by decide +kernel
theorem dX1_addSpan_57 : decode cX1_addSpan 57 = .ok (.aload_n 0, 1) := by decide +kernel
theorem dX1_addSpan_58 : decode cX1_addSpan 58 = .ok (.getfield 19, 3) := by decide +kernel
theorem dX1_addSpan_61 : decode cX1_addSpan 61 = .ok (.aload_n 0, 1) := by decide +kernel
theorem dX1_addSpan_62 : decode cX1_addSpan 62 = .ok (.getfield 45, 3) := by decide +kernel
theorem dX1_addSpan_65 : decode cX1_addSpan 65 = .ok (.aload 4, 2) := by decide +kernel
theorem dX1_addSpan_67 : decode cX1_addSpan 67 = .ok (.aastore, 1) := by decide +kernel
theorem dX1_addSpan_68 : decode cX1_addSpan 68 = .ok (.aload_n 0, 1) := by decide +kernel
theorem dX1_addSpan_69 : decode cX1_addSpan 69 = .ok (.dup, 1) := by decide +kernel
theorem dX1_addSpan_70 : decode cX1_addSpan 70 = .ok (.getfield 45, 3) := by decide +kernel
theorem dX1_addSpan_73 : decode cX1_addSpan 73 = .ok (.iconst 1, 1) := by decide +kernel
theorem dX1_addSpan_74 : decode cX1_addSpan 74 = .ok (.iadd, 1) := by decide +kernel
theorem dX1_addSpan_75 : decode cX1_addSpan 75 = .ok (.putfield 45, 3) := by decide +kernel
theorem dX1_addSpan_78 : decode cX1_addSpan 78 = .ok (.aload 4, 2) := by decide +kernel
theorem dX1_addSpan_80 : decode cX1_addSpan 80 = .ok (.aload_n 1, 1) := by decide +kernel
theorem dX1_addSpan_81 : decode cX1_addSpan 81 = .ok (.getfield 241, 3) := by decide +kernel
theorem dX1_addSpan_84 : decode cX1_addSpan 84 = .ok (.ifCond .eq 11, 3) := by decide +kernel
theorem dX1_addSpan_87 : decode cX1_addSpan 87 = .ok (.iload_n 2, 1) := by decide +kernel
theorem dX1_addSpan_88 : decode cX1_addSpan 88 = .ok (.ifCond .eq 7, 3) := by decide +kernel
theorem dX1_addSpan_91 : decode cX1_addSpan 91 = .ok (.iconst 1, 1) := by decide +kernel
theorem dX1_addSpan_92 : decode cX1_addSpan 92 = .ok (.goto 4, 3) := by decide +kernel
theorem dX1_addSpan_95 : decode cX1_addSpan 95 = .ok (.iconst 0, 1) := by decide +kernel
theorem dX1_addSpan_96 : decode cX1_addSpan 96 = .ok (.putfield 174, 3) := by decide +kernel
theorem dX1_addSpan_99 : decode cX1_addSpan 99 = .ok (.aload 4, 2) := by decide +kernel
theorem dX1_addSpan_101 : decode cX1_addSpan 101 = .ok (.aload 4, 2) := by decide +kernel
theorem dX1_addSpan_103 : decode cX1_addSpan 103 = .ok (.getfield 174, 3) := by decide +kernel
theorem dX1_addSpan_106 : decode cX1_addSpan 106 = .ok (.ifCond .eq 7, 3) := by decide +kernel
theorem dX1_addSpan_109 : decode cX1_addSpan 109 = .ok (.iload_n 3, 1) := by decide +kernel
theorem dX1_addSpan_110 : decode cX1_addSpan 110 = .ok (.goto 6, 3) := by decide +kernel
theorem dX1_addSpan_113 : decode cX1_addSpan 113 = .ok (.iload_n 3, 1) := by decide +kernel
theorem dX1_addSpan_114 : decode cX1_addSpan 114 = .ok (.iconst 1, 1) := by decide +kernel
theorem dX1_addSpan_115 : decode cX1_addSpan 115 = .ok (.iadd, 1) := by decide +kernel
theorem dX1_addSpan_116 : decode cX1_addSpan 116 = .ok (.putfield 82, 3) := by decide +kernel
theorem dX1_addSpan_119 : decode cX1_addSpan 119 = .ok (.aload 4, 2) := by decide +kernel
theorem dX1_addSpan_121 : decode cX1_addSpan 121 = .ok (.aload_n 0, 1) := by decide +kernel
theorem dX1_addSpan_122 : decode cX1_addSpan 122 = .ok (.getfield 39, 3) := by decide +kernel
theorem dX1_addSpan_125 : decode cX1_addSpan 125 = .ok (.iconst 1, 1) := by decide +kernel
theorem dX1_addSpan_126 : decode cX1_addSpan 126 = .ok (.isub, 1) := by decide +kernel
theorem dX1_addSpan_127 : decode cX1_addSpan 127 = .ok (.putfield 233, 3) := by decide +kernel
theorem dX1_addSpan_130 : decode cX1_addSpan 130 = .ok (.aload 4, 2) := by decide +kernel
theorem dX1_addSpan_132 : decode cX1_addSpan 132 = .ok (.aload_n 0, 1) := by decide +kernel
theorem dX1_addSpan_133 : decode cX1_addSpan 133 = .ok (.getfield 35, 3) := by decide +kernel
theorem dX1_addSpan_136 : decode cX1_addSpan 136 = .ok (.putfield 157, 3) := by decide +kernel
theorem dX1_addSpan_139 : decode cX1_addSpan 139 = .ok (.aload 4, 2) := by decide +kernel
theorem dX1_addSpan_141 : decode cX1_addSpan 141 = .ok (.areturn, 1) := by decide +kernel
theorem dX1_addStanza_0 : decode cX1_addStanza 0 = .ok (.aload_n 0, 1) := by decide +kernel
theorem dX1_addStanza_1 : decode cX1_addStanza 1 = .ok (.getfield 39, 3) := by decide +kernel
theorem dX1_addStanza_4 : decode cX1_addStanza 4 = .ok (.ifCond .lt 15, 3) := by decide +kernel
theorem dX1_addStanza_7 : decode cX1_addStanza 7 = .ok (.aload_n 0, 1) := by decide +kernel
theorem dX1_addStanza_8 : decode cX1_addStanza 8 = .ok (.getfield 39, 3) := by decide +kernel
theorem dX1_addStanza_11 : decode cX1_addStanza 11 = .ok (.aload_n 0, 1) := by decide +kernel
theorem dX1_addStanza_12 : decode cX1_addStanza 12 = .ok (.getfield 25, 3) := by decide +kernel
theorem dX1_addStanza_15 : decode cX1_addStanza 15 = .ok (.arraylength, 1) := by decide +kernel
theorem dX1_addStanza_16 : decode cX1_addStanza 16 = .ok (.if_icmp .lt 11, 3) := by decide +kernel
theorem dX1_addStanza_19 : decode cX1_addStanza 19 = .ok (.new 23, 3) := by decide +kernel
theorem dX1_addStanza_22 : decode cX1_addStanza 22 = .ok (.dup, 1) := by decide +kernel
theorem dX1_addStanza_23 : decode cX1_addStanza 23 = .ok (.invokespecial 244, 3) := by decide +kernel
theorem dX1_addStanza_26 : decode cX1_addStanza 26 = .ok (.areturn, 1) := by decide +kernel
theorem dX1_addStanza_27 : decode cX1_addStanza 27 = .ok (.aload_n 0, 1) := by decide +kernel
theorem dX1_addStanza_28 : decode cX1_addStanza 28 = .ok (.getfield 25, 3) := by decide +kernel
theorem dX1_addStanza_31 : decode cX1_addStanza 31 = .ok (.aload_n 0, 1) := by decide +kernel
theorem dX1_addStanza_32 : decode cX1_addStanza 32 = .ok (.getfield 39, 3) := by decide +kernel
theorem dX1_addStanza_35 : decode cX1_addStanza 35 = .ok (.aaload, 1) := by decide +kernel
theorem dX1_addStanza_36 : decode cX1_addStanza 36 = .ok (.astore_n 2, 1) := by decide +kernel
theorem dX1_addStanza_37 : decode cX1_addStanza 37 = .ok (.aload_n 2, 1) := by decide +kernel
theorem dX1_addStanza_38 : decode cX1_addStanza 38 = .ok (.ifnonnull 21, 3) := by decide +kernel
theorem dX1_addStanza_41 : decode cX1_addStanza 41 = .ok (.new 23, 3) := by decide +kernel
theorem dX1_addStanza_44 : decode cX1_addStanza 44 = .ok (.dup, 1) := by decide +kernel
theorem dX1_addStanza_45 : decode cX1_addStanza 45 = .ok (.invokespecial 244, 3) := by decide +kernel
theorem dX1_addStanza_48 : decode cX1_addStanza 48 = .ok (.astore_n 2, 1) := by decide +kernel
theorem dX1_addStanza_49 : decode cX1_addStanza 49 = .ok (.aload_n 0, 1) := by decide +kernel
theorem dX1_addStanza_50 : decode cX1_addStanza 50 = .ok (.getfield 25, 3) := by decide +kernel
theorem dX1_addStanza_53 : decode cX1_addStanza 53 = .ok (.aload_n 0, 1) := by decide +kernel
theorem dX1_addStanza_54 : decode cX1_addStanza 54 = .ok (.getfield 39, 3) := by decide +kernel
theorem dX1_addStanza_57 : decode cX1_addStanza 57 = .ok (.aload_n 2, 1) := by decide +kernel
theorem dX1_addStanza_58 : decode cX1_addStanza 58 = .ok (.aastore, 1) := by decide +kernel
theorem dX1_addStanza_59 : decode cX1_addStanza 59 = .ok (.aload_n 0, 1) := by decide +kernel
theorem dX1_addStanza_60 : decode cX1_addStanza 60 = .ok (.dup, 1) := by decide +kernel
theorem dX1_addStanza_61 : decode cX1_addStanza 61 = .ok (.getfield 39, 3) := by decide +kernel
theorem dX1_addStanza_64 : decode cX1_addStanza 64 = .ok (.iconst 1, 1) := by decide +kernel
theorem dX1_addStanza_65 : decode cX1_addStanza 65 = .ok (.iadd, 1) := by decide +kernel
theorem dX1_addStanza_66 : decode cX1_addStanza 66 = .ok (.putfield 39, 3) := by decide +kernel
theorem dX1_addStanza_69 : decode cX1_addStanza 69 = .ok (.aload_n 2, 1) := by decide +kernel
theorem dX1_addStanza_70 : decode cX1_addStanza 70 = .ok (.iload_n 1, 1) := by decide +kernel
theorem dX1_addStanza_71 : decode cX1_addStanza 71 = .ok (.putfield 127, 3) := by decide +kernel
theorem dX1_addStanza_74 : decode cX1_addStanza 74 = .ok (.aload_n 2, 1) := by decide +kernel
theorem dX1_addStanza_75 : decode cX1_addStanza 75 = .ok (.aload_n 0, 1) := by decide +kernel
theorem dX1_addStanza_76 : decode cX1_addStanza 76 = .ok (.getfield 35, 3) := by decide +kernel
theorem dX1_addStanza_79 : decode cX1_addStanza 79 = .ok (.putfield 95, 3) := by decide +kernel
theorem dX1_addStanza_82 : decode cX1_addStanza 82 = .ok (.aload_n 2, 1) := by decide +kernel
theorem dX1_addStanza_83 : decode cX1_addStanza 83 = .ok (.iconst 0, 1) := by decide +kernel
theorem dX1_addStanza_84 : decode cX1_addStanza 84 = .ok (.putfield 96, 3) := by decide +kernel
theorem dX1_addStanza_87 : decode cX1_addStanza 87 = .ok (.aload_n 2, 1) := by decide +kernel
theorem dX1_addStanza_88 : decode cX1_addStanza 88 = .ok (.areturn, 1) := by decide +kernel
theorem dX1_lastStanza_0 : decode cX1_lastStanza 0 = .ok (.aload_n 0, 1) := by decide +kernel
theorem dX1_lastStanza_1 : decode cX1_lastStanza 1 = .ok (.aload_n 0, 1) := by decide +kernel
theorem dX1_lastStanza_2 : decode cX1_lastStanza 2 = .ok (.getfield 39, 3) := by decide +kernel
theorem dX1_lastStanza_5 : decode cX1_lastStanza 5 = .ok (.iconst 1, 1) := by decide +kernel
theorem dX1_lastStanza_6 : decode cX1_lastStanza 6 = .ok (.isub, 1) := by decide +kernel
theorem dX1_lastStanza_7 : decode cX1_lastStanza 7 = .ok (.invokevirtual 159, 3) := by decide +kernel
theorem dX1_lastStanza_10 : decode cX1_lastStanza 10 = .ok (.astore_n 2, 1) := by decide +kernel
theorem dX1_lastStanza_11 : decode cX1_lastStanza 11 = .ok (.aload_n 2, 1) := by decide +kernel
theorem dX1_lastStanza_12 : decode cX1_lastStanza 12 = .ok (.ifnonnull 11, 3) := by decide +kernel
theorem dX1_lastStanza_15 : decode cX1_lastStanza 15 = .ok (.aload_n 0, 1) := by decide +kernel
theorem dX1_lastStanza_16 : decode cX1_lastStanza 16 = .ok (.iload_n 1, 1) := by decide +kernel
theorem dX1_lastStanza_17 : decode cX1_lastStanza 17 = .ok (.invokevirtual 120, 3) := by decide +kernel
theorem dX1_lastStanza_20 : decode cX1_lastStanza 20 = .ok (.goto 4, 3) := by decide +kernel
theorem dX1_lastStanza_23 : decode cX1_lastStanza 23 = .ok (.aload_n 2, 1) := by decide +kernel
theorem dX1_lastStanza_24 : decode cX1_lastStanza 24 = .ok (.areturn, 1) := by decide +kernel
theorem dX1_addPage_0 : decode cX1_addPage 0 = .ok (.aload_n 0, 1) := by decide +kernel
theorem dX1_addPage_1 : decode cX1_addPage 1 = .ok (.getfield 42, 3) := by decide +kernel
theorem dX1_addPage_4 : decode cX1_addPage 4 = .ok (.ifCond .lt 15, 3) := by decide +kernel
theorem dX1_addPage_7 : decode cX1_addPage 7 = .ok (.aload_n 0, 1) := by decide +kernel
theorem dX1_addPage_8 : decode cX1_addPage 8 = .ok (.getfield 42, 3) := by decide +kernel
theorem dX1_addPage_11 : decode cX1_addPage 11 = .ok (.aload_n 0, 1) := by decide +kernel
theorem dX1_addPage_12 : decode cX1_addPage 12 = .ok (.getfield 31, 3) := by decide +kernel
theorem dX1_addPage_15 : decode cX1_addPage 15 = .ok (.arraylength, 1) := by decide +kernel
theorem dX1_addPage_16 : decode cX1_addPage 16 = .ok (.if_icmp .lt 11, 3) := by decide +kernel
theorem dX1_addPage_19 : decode cX1_addPage 19 = .ok (.new 29, 3) := by decide +kernel
theorem dX1_addPage_22 : decode cX1_addPage 22 = .ok (.dup, 1) := by decide +kernel
theorem dX1_addPage_23 : decode cX1_addPage 23 = .ok (.invokespecial 245, 3) := by decide +kernel
theorem dX1_addPage_26 : decode cX1_addPage 26 = .ok (.areturn, 1) := by decide +kernel
theorem dX1_addPage_27 : decode cX1_addPage 27 = .ok (.aload_n 0, 1) := by decide +kernel
theorem dX1_addPage_28 : decode cX1_addPage 28 = .ok (.getfield 31, 3) := by decide +kernel
theorem dX1_addPage_31 : decode cX1_addPage 31 = .ok (.aload_n 0, 1) := by decide +kernel
theorem dX1_addPage_32 : decode cX1_addPage 32 = .ok (.getfield 42, 3) := by decide +kernel
theorem dX1_addPage_35 : decode cX1_addPage 35 = .ok (.aaload, 1) := by decide +kernel
theorem dX1_addPage_36 : decode cX1_addPage 36 = .ok (.astore_n 2, 1) := by decide +kernel
theorem dX1_addPage_37 : decode cX1_addPage 37 = .ok (.aload_n 2, 1) := by decide +kernel
theorem dX1_addPage_38 : decode cX1_addPage 38 = .ok (.ifnonnull 21, 3) := by decide +kernel
theorem dX1_addPage_41 : decode cX1_addPage 41 = .ok (.new 29, 3) := by decide +kernel
theorem dX1_addPage_44 : decode cX1_addPage 44 = .ok (.dup, 1) := by decide +kernel
theorem dX1_addPage_45 : decode cX1_addPage 45 = .ok (.invokespecial 245, 3) := by decide +kernel
theorem dX1_addPage_48 : decode cX1_addPage 48 = .ok (.astore_n 2, 1) := by decide +kernel
theorem dX1_addPage_49 : decode cX1_addPage 49 = .ok (.aload_n 0, 1) := by decide +kernel
theorem dX1_addPage_50 : decode cX1_addPage 50 = .ok (.getfield 31, 3) := by decide +kernel
theorem dX1_addPage_53 : decode cX1_addPage 53 = .ok (.aload_n 0, 1) := by decide +kernel
theorem dX1_addPage_54 : decode cX1_addPage 54 = .ok (.getfield 42, 3) := by decide +kernel
theorem dX1_addPage_57 : decode cX1_addPage 57 = .ok (.aload_n 2, 1) := by decide +kernel
theorem dX1_addPage_58 : decode cX1_addPage 58 = .ok (.aastore, 1) := by decide +kernel
theorem dX1_addPage_59 : decode cX1_addPage 59 = .ok (.aload_n 0, 1) := by decide +kernel
theorem dX1_addPage_60 : decode cX1_addPage 60 = .ok (.dup, 1) := by decide +kernel
theorem dX1_addPage_61 : decode cX1_addPage 61 = .ok (.getfield 42, 3) := by decide +kernel
theorem dX1_addPage_64 : decode cX1_addPage 64 = .ok (.iconst 1, 1) := by decide +kernel
theorem dX1_addPage_65 : decode cX1_addPage 65 = .ok (.iadd, 1) := by decide +kernel
theorem dX1_addPage_66 : decode cX1_addPage 66 = .ok (.putfield 42, 3) := by decide +kernel
theorem dX1_addPage_69 : decode cX1_addPage 69 = .ok (.aload_n 2, 1) := by decide +kernel
theorem dX1_addPage_70 : decode cX1_addPage 70 = .ok (.iload_n 1, 1) := by decide +kernel
theorem dX1_addPage_71 : decode cX1_addPage 71 = .ok (.putfield 51, 3) := by decide +kernel
theorem dX1_addPage_74 : decode cX1_addPage 74 = .ok (.aload_n 2, 1) := by decide +kernel
theorem dX1_addPage_75 : decode cX1_addPage 75 = .ok (.iconst 0, 1) := by decide +kernel
theorem dX1_addPage_76 : decode cX1_addPage 76 = .ok (.putfield 54, 3) := by decide +kernel
theorem dX1_addPage_79 : decode cX1_addPage 79 = .ok (.aload_n 2, 1) := by decide +kernel
theorem dX1_addPage_80 : decode cX1_addPage 80 = .ok (.iconst 0, 1) := by decide +kernel
theorem dX1_addPage_81 : decode cX1_addPage 81 = .ok (.putfield 227, 3) := by decide +kernel
theorem dX1_addPage_84 : decode cX1_addPage 84 = .ok (.aload_n 2, 1) := by decide +kernel
theorem dX1_addPage_85 : decode cX1_addPage 85 = .ok (.iconst 0, 1) := by decide +kernel
theorem dX1_addPage_86 : decode cX1_addPage 86 = .ok (.putfield 230, 3) := by decide +kernel
theorem dX1_addPage_89 : decode cX1_addPage 89 = .ok (.aload_n 2, 1) := by decide +kernel
theorem dX1_addPage_90 : decode cX1_addPage 90 = .ok (.iconst 0, 1) := by decide +kernel
theorem dX1_addPage_91 : decode cX1_addPage 91 = .ok (.putfield 75, 3) := by decide +kernel
theorem dX1_addPage_94 : decode cX1_addPage 94 = .ok (.aload_n 2, 1) := by decide +kernel
theorem dX1_addPage_95 : decode cX1_addPage 95 = .ok (.areturn, 1) := by decide +kernel
theorem dX2_init_0 : decode cX2_init 0 = .ok (.aload_n 0, 1) := by decide +kernel
theorem dX2_init_1 : decode cX2_init 1 = .ok (.invokespecial 1, 3) := by decide +kernel
theorem dX2_init_4 : decode cX2_init 4 = .ok (.aload_n 0, 1) := by decide +kernel
theorem dX2_init_5 : decode cX2_init 5 = .ok (.aload_n 1, 1) := by decide +kernel
theorem dX2_init_6 : decode cX2_init 6 = .ok (.putfield 7, 3) := by decide +kernel
theorem dX2_init_9 : decode cX2_init 9 = .ok (.aload_n 0, 1) := by decide +kernel
theorem dX2_init_10 : decode cX2_init 10 = .ok (.iload_n 2, 1) := by decide +kernel
theorem dX2_init_11 : decode cX2_init 11 = .ok (.putfield 13, 3) := by decide +kernel
theorem dX2_init_14 : decode cX2_init 14 = .ok (.aload_n 0, 1) := by decide +kernel
theorem dX2_init_15 : decode cX2_init 15 = .ok (.iload_n 3, 1) := by decide +kernel
theorem dX2_init_16 : decode cX2_init 16 = .ok (.putfield 17, 3) := by decide +kernel
theorem dX2_init_19 : decode cX2_init 19 = .ok (.aload_n 0, 1) := by decide +kernel
theorem dX2_init_20 : decode cX2_init 20 = .ok (.iload 4, 2) := by decide +kernel
theorem dX2_init_22 : decode cX2_init 22 = .ok (.putfield 21, 3) := by decide +kernel
theorem dX2_init_25 : decode cX2_init 25 = .ok (.return_, 1) := by decide +kernel
theorem dX3_init_0 : decode cX3_init 0 = .ok (.aload_n 0, 1) := by decide +kernel
theorem dX3_init_1 : decode cX3_init 1 = .ok (.invokespecial 1, 3) := by decide +kernel
theorem dX3_init_4 : decode cX3_init 4 = .ok (.return_, 1) := by decide +kernel
theorem dX4_init_0 : decode cX4_init 0 = .ok (.aload_n 0, 1) := by decide +kernel
theorem dX4_init_1 : decode cX4_init 1 = .ok (.invokespecial 1, 3) := by decide +kernel
theorem dX4_init_4 : decode cX4_init 4 = .ok (.return_, 1) := by decide +kernel
theorem dX5_init_0 : decode cX5_init 0 = .ok (.aload_n 0, 1) := by decide +kernel
theorem dX5_init_1 : decode cX5_init 1 = .ok (.invokespecial 3, 3) := by decide +kernel
theorem dX5_init_4 : decode cX5_init 4 = .ok (.aload_n 0, 1) := by decide +kernel
theorem dX5_init_5 : decode cX5_init 5 = .ok (.bipush 24, 2) := by decide +kernel
theorem dX5_init_7 : decode cX5_init 7 = .ok (.anewarray 9, 3) := by decide +kernel
theorem dX5_init_10 : decode cX5_init 10 = .ok (.putfield 11, 3) := by decide +kernel
theorem dX5_init_13 : decode cX5_init 13 = .ok (.aload_n 0, 1) := by decide +kernel
theorem dX5_init_14 : decode cX5_init 14 = .ok (.iconst 5, 1) := by decide +kernel
theorem dX5_init_15 : decode cX5_init 15 = .ok (.newarray .int, 2) := by decide +kernel
theorem dX5_init_17 : decode cX5_init 17 = .ok (.putfield 17, 3) := by decide +kernel
theorem dX5_init_20 : decode cX5_init 20 = .ok (.aload_n 0, 1) := by decide +kernel
theorem dX5_init_21 : decode cX5_init 21 = .ok (.iconst 0, 1) := by decide +kernel
theorem dX5_init_22 : decode cX5_init 22 = .ok (.putfield 21, 3) := by decide +kernel
theorem dX5_init_25 : decode cX5_init 25 = .ok (.iconst 0, 1) := by decide +kernel
theorem dX5_init_26 : decode cX5_init 26 = .ok (.istore_n 1, 1) := by decide +kernel
theorem dX5_init_27 : decode cX5_init 27 = .ok (.iload_n 1, 1) := by decide +kernel
theorem dX5_init_28 : decode cX5_init 28 = .ok (.aload_n 0, 1) := by decide +kernel
theorem dX5_init_29 : decode cX5_init 29 = .ok (.getfield 17, 3) := by decide +kernel
theorem dX5_init_32 : decode cX5_init 32 = .ok (.arraylength, 1) := by decide +kernel
theorem dX5_init_33 : decode cX5_init 33 = .ok (.if_icmp .ge 22, 3) := by decide +kernel
theorem dX5_init_36 : decode cX5_init 36 = .ok (.aload_n 0, 1) := by decide +kernel
theorem dX5_init_37 : decode cX5_init 37 = .ok (.getfield 17, 3) := by decide +kernel
theorem dX5_init_40 : decode cX5_init 40 = .ok (.iload_n 1, 1) := by decide +kernel
theorem dX5_init_41 : decode cX5_init 41 = .ok (.getstatic 25, 3) := by decide +kernel
theorem dX5_init_44 : decode cX5_init 44 = .ok (.iload_n 1, 1) := by decide +kernel
theorem dX5_init_45 : decode cX5_init 45 = .ok (.invokestatic 28, 3) := by decide +kernel
theorem dX5_init_48 : decode cX5_init 48 = .ok (.iastore, 1) := by decide +kernel
theorem dX5_init_49 : decode cX5_init 49 = .ok (.iinc 1 1, 3) := by decide +kernel
theorem dX5_init_52 : decode cX5_init 52 = .ok (.goto (-25), 3) := by decide +kernel
theorem dX5_init_55 : decode cX5_init 55 = .ok (.return_, 1) := by decide +kernel
theorem dX5_lineAt_0 : decode cX5_lineAt 0 = .ok (.iload_n 1, 1) := by decide +kernel
theorem dX5_lineAt_1 : decode cX5_lineAt 1 = .ok (.ifCond .lt 20, 3) := by decide +kernel
theorem dX5_lineAt_4 : decode cX5_lineAt 4 = .ok (.iload_n 1, 1) := by decide +kernel
theorem dX5_lineAt_5 : decode cX5_lineAt 5 = .ok (.aload_n 0, 1) := by decide +kernel
theorem dX5_lineAt_6 : decode cX5_lineAt 6 = .ok (.getfield 21, 3) := by decide +kernel
theorem dX5_lineAt_9 : decode cX5_lineAt 9 = .ok (.if_icmp .ge 12, 3) := by decide +kernel
theorem dX5_lineAt_12 : decode cX5_lineAt 12 = .ok (.iload_n 1, 1) := by decide +kernel
theorem dX5_lineAt_13 : decode cX5_lineAt 13 = .ok (.aload_n 0, 1) := by decide +kernel
theorem dX5_lineAt_14 : decode cX5_lineAt 14 = .ok (.getfield 11, 3) := by decide +kernel
theorem dX5_lineAt_17 : decode cX5_lineAt 17 = .ok (.arraylength, 1) := by decide +kernel
theorem dX5_lineAt_18 : decode cX5_lineAt 18 = .ok (.if_icmp .lt 7, 3) := by decide +kernel
theorem dX5_lineAt_21 : decode cX5_lineAt 21 = .ok (.aconst_null, 1) := by decide +kernel
theorem dX5_lineAt_22 : decode cX5_lineAt 22 = .ok (.goto 9, 3) := by decide +kernel
theorem dX5_lineAt_25 : decode cX5_lineAt 25 = .ok (.aload_n 0, 1) := by decide +kernel
theorem dX5_lineAt_26 : decode cX5_lineAt 26 = .ok (.getfield 11, 3) := by decide +kernel
theorem dX5_lineAt_29 : decode cX5_lineAt 29 = .ok (.iload_n 1, 1) := by decide +kernel
theorem dX5_lineAt_30 : decode cX5_lineAt 30 = .ok (.aaload, 1) := by decide +kernel
theorem dX5_lineAt_31 : decode cX5_lineAt 31 = .ok (.areturn, 1) := by decide +kernel
theorem dX5_setting_0 : decode cX5_setting 0 = .ok (.aload_n 0, 1) := by decide +kernel
theorem dX5_setting_1 : decode cX5_setting 1 = .ok (.getfield 17, 3) := by decide +kernel
theorem dX5_setting_4 : decode cX5_setting 4 = .ok (.iload_n 1, 1) := by decide +kernel
theorem dX5_setting_5 : decode cX5_setting 5 = .ok (.invokestatic 28, 3) := by decide +kernel
theorem dX5_setting_8 : decode cX5_setting 8 = .ok (.ireturn, 1) := by decide +kernel
theorem dX5_changeSetting_0 : decode cX5_changeSetting 0 = .ok (.iload_n 1, 1) := by decide +kernel
theorem dX5_changeSetting_1 : decode cX5_changeSetting 1 = .ok (.ifCond .lt 19, 3) := by decide +kernel
theorem dX5_changeSetting_4 : decode cX5_changeSetting 4 = .ok (.iload_n 1, 1) := by decide +kernel
theorem dX5_changeSetting_5 : decode cX5_changeSetting 5 = .ok (.aload_n 0, 1) := by decide +kernel
theorem dX5_changeSetting_6 : decode cX5_changeSetting 6 = .ok (.getfield 17, 3) := by decide +kernel
theorem dX5_changeSetting_9 : decode cX5_changeSetting 9 = .ok (.arraylength, 1) := by decide +kernel
theorem dX5_changeSetting_10 : decode cX5_changeSetting 10 = .ok (.if_icmp .ge 10, 3) := by decide +kernel
theorem dX5_changeSetting_13 : decode cX5_changeSetting 13 = .ok (.aload_n 0, 1) := by decide +kernel
theorem dX5_changeSetting_14 : decode cX5_changeSetting 14 = .ok (.getfield 17, 3) := by decide +kernel
theorem dX5_changeSetting_17 : decode cX5_changeSetting 17 = .ok (.iload_n 1, 1) := by decide +kernel
theorem dX5_changeSetting_18 : decode cX5_changeSetting 18 = .ok (.iload_n 2, 1) := by decide +kernel
theorem dX5_changeSetting_19 : decode cX5_changeSetting 19 = .ok (.iastore, 1) := by decide +kernel
theorem dX5_changeSetting_20 : decode cX5_changeSetting 20 = .ok (.return_, 1) := by decide +kernel
theorem dX5_beginsStanza_0 : decode cX5_beginsStanza 0 = .ok (.aload_n 0, 1) := by decide +kernel
theorem dX5_beginsStanza_1 : decode cX5_beginsStanza 1 = .ok (.iload_n 1, 1) := by decide +kernel
theorem dX5_beginsStanza_2 : decode cX5_beginsStanza 2 = .ok (.iconst 1, 1) := by decide +kernel
theorem dX5_beginsStanza_3 : decode cX5_beginsStanza 3 = .ok (.isub, 1) := by decide +kernel
theorem dX5_beginsStanza_4 : decode cX5_beginsStanza 4 = .ok (.invokevirtual 32, 3) := by decide +kernel
theorem dX5_beginsStanza_7 : decode cX5_beginsStanza 7 = .ok (.astore_n 2, 1) := by decide +kernel
theorem dX5_beginsStanza_8 : decode cX5_beginsStanza 8 = .ok (.aload_n 2, 1) := by decide +kernel
theorem dX5_beginsStanza_9 : decode cX5_beginsStanza 9 = .ok (.ifnull 10, 3) := by decide +kernel
theorem dX5_beginsStanza_12 : decode cX5_beginsStanza 12 = .ok (.aload_n 2, 1) := by decide +kernel
theorem dX5_beginsStanza_13 : decode cX5_beginsStanza 13 = .ok (.getfield 36, 3) := by decide +kernel
theorem dX5_beginsStanza_16 : decode cX5_beginsStanza 16 = .ok (.ifCond .eq 7, 3) := by decide +kernel
theorem dX5_beginsStanza_19 : decode cX5_beginsStanza 19 = .ok (.iconst 1, 1) := by decide +kernel
theorem dX5_beginsStanza_20 : decode cX5_beginsStanza 20 = .ok (.goto 4, 3) := by decide +kernel
theorem dX5_beginsStanza_23 : decode cX5_beginsStanza 23 = .ok (.iconst 0, 1) := by decide +kernel
theorem dX5_beginsStanza_24 : decode cX5_beginsStanza 24 = .ok (.ireturn, 1) := by decide +kernel
theorem dX5_exchange_0 : decode cX5_exchange 0 = .ok (.iload_n 1, 1) := by decide +kernel
theorem dX5_exchange_1 : decode cX5_exchange 1 = .ok (.ifCond .lt 27, 3) := by decide +kernel
theorem dX5_exchange_4 : decode cX5_exchange 4 = .ok (.iload_n 1, 1) := by decide +kernel
theorem dX5_exchange_5 : decode cX5_exchange 5 = .ok (.aload_n 0, 1) := by decide +kernel
theorem dX5_exchange_6 : decode cX5_exchange 6 = .ok (.getfield 21, 3) := by decide +kernel
theorem dX5_exchange_9 : decode cX5_exchange 9 = .ok (.if_icmp .ge 19, 3) := by decide +kernel
theorem dX5_exchange_12 : decode cX5_exchange 12 = .ok (.iload_n 1, 1) := by decide +kernel
theorem dX5_exchange_13 : decode cX5_exchange 13 = .ok (.aload_n 0, 1) := by decide +kernel
theorem dX5_exchange_14 : decode cX5_exchange 14 = .ok (.getfield 11, 3) := by decide +kernel
theorem dX5_exchange_17 : decode cX5_exchange 17 = .ok (.arraylength, 1) := by decide +kernel
theorem dX5_exchange_18 : decode cX5_exchange 18 = .ok (.if_icmp .ge 10, 3) := by decide +kernel
theorem dX5_exchange_21 : decode cX5_exchange 21 = .ok (.aload_n 0, 1) := by decide +kernel
theorem dX5_exchange_22 : decode cX5_exchange 22 = .ok (.getfield 11, 3) := by decide +kernel
theorem dX5_exchange_25 : decode cX5_exchange 25 = .ok (.iload_n 1, 1) := by decide +kernel
theorem dX5_exchange_26 : decode cX5_exchange 26 = .ok (.aload_n 2, 1) := by decide +kernel
theorem dX5_exchange_27 : decode cX5_exchange 27 = .ok (.aastore, 1) := by decide +kernel
theorem dX5_exchange_28 : decode cX5_exchange 28 = .ok (.return_, 1) := by decide +kernel
theorem dX5_putIn_0 : decode cX5_putIn 0 = .ok (.iload_n 1, 1) := by decide +kernel
theorem dX5_putIn_1 : decode cX5_putIn 1 = .ok (.ifCond .lt 30, 3) := by decide +kernel
theorem dX5_putIn_4 : decode cX5_putIn 4 = .ok (.iload_n 1, 1) := by decide +kernel
theorem dX5_putIn_5 : decode cX5_putIn 5 = .ok (.aload_n 0, 1) := by decide +kernel
theorem dX5_putIn_6 : decode cX5_putIn 6 = .ok (.getfield 21, 3) := by decide +kernel
theorem dX5_putIn_9 : decode cX5_putIn 9 = .ok (.if_icmp .gt 22, 3) := by decide +kernel
theorem dX5_putIn_12 : decode cX5_putIn 12 = .ok (.aload_n 0, 1) := by decide +kernel
theorem dX5_putIn_13 : decode cX5_putIn 13 = .ok (.getfield 21, 3) := by decide +kernel
theorem dX5_putIn_16 : decode cX5_putIn 16 = .ok (.ifCond .lt 15, 3) := by decide +kernel
theorem dX5_putIn_19 : decode cX5_putIn 19 = .ok (.aload_n 0, 1) := by decide +kernel
theorem dX5_putIn_20 : decode cX5_putIn 20 = .ok (.getfield 21, 3) := by decide +kernel
theorem dX5_putIn_23 : decode cX5_putIn 23 = .ok (.aload_n 0, 1) := by decide +kernel
theorem dX5_putIn_24 : decode cX5_putIn 24 = .ok (.getfield 11, 3) := by decide +kernel
theorem dX5_putIn_27 : decode cX5_putIn 27 = .ok (.arraylength, 1) := by decide +kernel
theorem dX5_putIn_28 : decode cX5_putIn 28 = .ok (.if_icmp .lt 4, 3) := by decide +kernel
theorem dX5_putIn_31 : decode cX5_putIn 31 = .ok (.return_, 1) := by decide +kernel
theorem dX5_putIn_32 : decode cX5_putIn 32 = .ok (.aload_n 0, 1) := by decide +kernel
theorem dX5_putIn_33 : decode cX5_putIn 33 = .ok (.getfield 21, 3) := by decide +kernel
theorem dX5_putIn_36 : decode cX5_putIn 36 = .ok (.istore_n 3, 1) := by decide +kernel
theorem dX5_putIn_37 : decode cX5_putIn 37 = .ok (.iload_n 3, 1) := by decide +kernel
theorem dX5_putIn_38 : decode cX5_putIn 38 = .ok (.iload_n 1, 1) := by decide +kernel
theorem dX5_putIn_39 : decode cX5_putIn 39 = .ok (.if_icmp .le 23, 3) := by decide +kernel
theorem dX5_putIn_42 : decode cX5_putIn 42 = .ok (.aload_n 0, 1) := by decide +kernel
theorem dX5_putIn_43 : decode cX5_putIn 43 = .ok (.getfield 11, 3) := by decide +kernel
theorem dX5_putIn_46 : decode cX5_putIn 46 = .ok (.iload_n 3, 1) := by decide +kernel
theorem dX5_putIn_47 : decode cX5_putIn 47 = .ok (.aload_n 0, 1) := by decide +kernel
theorem dX5_putIn_48 : decode cX5_putIn 48 = .ok (.getfield 11, 3) := by decide +kernel
theorem dX5_putIn_51 : decode cX5_putIn 51 = .ok (.iload_n 3, 1) := by decide +kernel
theorem dX5_putIn_52 : decode cX5_putIn 52 = .ok (.iconst 1, 1) := by decide +kernel
theorem dX5_putIn_53 : decode cX5_putIn 53 = .ok (.isub, 1) := by decide +kernel
theorem dX5_putIn_54 : decode cX5_putIn 54 = .ok (.aaload, 1) := by decide +kernel
theorem dX5_putIn_55 : decode cX5_putIn 55 = .ok (.aastore, 1) := by decide +kernel
theorem dX5_putIn_56 : decode cX5_putIn 56 = .ok (.iinc 3 (-1), 3) := by decide +kernel
theorem dX5_putIn_59 : decode cX5_putIn 59 = .ok (.goto (-22), 3) := by decide +kernel
theorem dX5_putIn_62 : decode cX5_putIn 62 = .ok (.aload_n 0, 1) := by decide +kernel
theorem dX5_putIn_63 : decode cX5_putIn 63 = .ok (.getfield 11, 3) := by decide +kernel
theorem dX5_putIn_66 : decode cX5_putIn 66 = .ok (.iload_n 1, 1) := by decide +kernel
theorem dX5_putIn_67 : decode cX5_putIn 67 = .ok (.aload_n 2, 1) := by decide +kernel
theorem dX5_putIn_68 : decode cX5_putIn 68 = .ok (.aastore, 1) := by decide +kernel
theorem dX5_putIn_69 : decode cX5_putIn 69 = .ok (.aload_n 0, 1) := by decide +kernel
theorem dX5_putIn_70 : decode cX5_putIn 70 = .ok (.dup, 1) := by decide +kernel
theorem dX5_putIn_71 : decode cX5_putIn 71 = .ok (.getfield 21, 3) := by decide +kernel
theorem dX5_putIn_74 : decode cX5_putIn 74 = .ok (.iconst 1, 1) := by decide +kernel
theorem dX5_putIn_75 : decode cX5_putIn 75 = .ok (.iadd, 1) := by decide +kernel
theorem dX5_putIn_76 : decode cX5_putIn 76 = .ok (.putfield 21, 3) := by decide +kernel
theorem dX5_putIn_79 : decode cX5_putIn 79 = .ok (.return_, 1) := by decide +kernel
theorem dX5_takeOut_0 : decode cX5_takeOut 0 = .ok (.iload_n 1, 1) := by decide +kernel
theorem dX5_takeOut_1 : decode cX5_takeOut 1 = .ok (.ifCond .lt 23, 3) := by decide +kernel
theorem dX5_takeOut_4 : decode cX5_takeOut 4 = .ok (.iload_n 1, 1) := by decide +kernel
theorem dX5_takeOut_5 : decode cX5_takeOut 5 = .ok (.aload_n 0, 1) := by decide +kernel
theorem dX5_takeOut_6 : decode cX5_takeOut 6 = .ok (.getfield 21, 3) := by decide +kernel
theorem dX5_takeOut_9 : decode cX5_takeOut 9 = .ok (.if_icmp .ge 15, 3) := by decide +kernel
theorem dX5_takeOut_12 : decode cX5_takeOut 12 = .ok (.aload_n 0, 1) := by decide +kernel
theorem dX5_takeOut_13 : decode cX5_takeOut 13 = .ok (.getfield 21, 3) := by decide +kernel
theorem dX5_takeOut_16 : decode cX5_takeOut 16 = .ok (.aload_n 0, 1) := by decide +kernel
theorem dX5_takeOut_17 : decode cX5_takeOut 17 = .ok (.getfield 11, 3) := by decide +kernel
theorem dX5_takeOut_20 : decode cX5_takeOut 20 = .ok (.arraylength, 1) := by decide +kernel
theorem dX5_takeOut_21 : decode cX5_takeOut 21 = .ok (.if_icmp .le 4, 3) := by decide +kernel
theorem dX5_takeOut_24 : decode cX5_takeOut 24 = .ok (.return_, 1) := by decide +kernel
theorem dX5_takeOut_25 : decode cX5_takeOut 25 = .ok (.aload_n 0, 1) := by decide +kernel
theorem dX5_takeOut_26 : decode cX5_takeOut 26 = .ok (.dup, 1) := by decide +kernel
theorem dX5_takeOut_27 : decode cX5_takeOut 27 = .ok (.getfield 21, 3) := by decide +kernel
theorem dX5_takeOut_30 : decode cX5_takeOut 30 = .ok (.iconst 1, 1) := by decide +kernel
theorem dX5_takeOut_31 : decode cX5_takeOut 31 = .ok (.isub, 1) := by decide +kernel
theorem dX5_takeOut_32 : decode cX5_takeOut 32 = .ok (.putfield 21, 3) := by decide +kernel
theorem dX5_takeOut_35 : decode cX5_takeOut 35 = .ok (.iload_n 1, 1) := by decide +kernel
theorem dX5_takeOut_36 : decode cX5_takeOut 36 = .ok (.istore_n 2, 1) := by decide +kernel
theorem dX5_takeOut_37 : decode cX5_takeOut 37 = .ok (.iload_n 2, 1) := by decide +kernel
theorem dX5_takeOut_38 : decode cX5_takeOut 38 = .ok (.aload_n 0, 1) := by decide +kernel
theorem dX5_takeOut_39 : decode cX5_takeOut 39 = .ok (.getfield 21, 3) := by decide +kernel
theorem dX5_takeOut_42 : decode cX5_takeOut 42 = .ok (.if_icmp .ge 23, 3) := by decide +kernel
theorem dX5_takeOut_45 : decode cX5_takeOut 45 = .ok (.aload_n 0, 1) := by decide +kernel
theorem dX5_takeOut_46 : decode cX5_takeOut 46 = .ok (.getfield 11, 3) := by decide +kernel
theorem dX5_takeOut_49 : decode cX5_takeOut 49 = .ok (.iload_n 2, 1) := by decide +kernel
theorem dX5_takeOut_50 : decode cX5_takeOut 50 = .ok (.aload_n 0, 1) := by decide +kernel
theorem dX5_takeOut_51 : decode cX5_takeOut 51 = .ok (.getfield 11, 3) := by decide +kernel
theorem dX5_takeOut_54 : decode cX5_takeOut 54 = .ok (.iload_n 2, 1) := by decide +kernel
theorem dX5_takeOut_55 : decode cX5_takeOut 55 = .ok (.iconst 1, 1) := by decide +kernel
theorem dX5_takeOut_56 : decode cX5_takeOut 56 = .ok (.iadd, 1) := by decide +kernel
theorem dX5_takeOut_57 : decode cX5_takeOut 57 = .ok (.aaload, 1) := by decide +kernel
theorem dX5_takeOut_58 : decode cX5_takeOut 58 = .ok (.aastore, 1) := by decide +kernel
theorem dX5_takeOut_59 : decode cX5_takeOut 59 = .ok (.iinc 2 1, 3) := by decide +kernel
theorem dX5_takeOut_62 : decode cX5_takeOut 62 = .ok (.goto (-25), 3) := by decide +kernel
theorem dX5_takeOut_65 : decode cX5_takeOut 65 = .ok (.aload_n 0, 1) := by decide +kernel
theorem dX5_takeOut_66 : decode cX5_takeOut 66 = .ok (.getfield 11, 3) := by decide +kernel
theorem dX5_takeOut_69 : decode cX5_takeOut 69 = .ok (.aload_n 0, 1) := by decide +kernel
theorem dX5_takeOut_70 : decode cX5_takeOut 70 = .ok (.getfield 21, 3) := by decide +kernel
theorem dX5_takeOut_73 : decode cX5_takeOut 73 = .ok (.aconst_null, 1) := by decide +kernel
theorem dX5_takeOut_74 : decode cX5_takeOut 74 = .ok (.aastore, 1) := by decide +kernel
theorem dX5_takeOut_75 : decode cX5_takeOut 75 = .ok (.return_, 1) := by decide +kernel
theorem dX5_moveLines_0 : decode cX5_moveLines 0 = .ok (.iconst 0, 1) := by decide +kernel
theorem dX5_moveLines_1 : decode cX5_moveLines 1 = .ok (.istore 4, 2) := by decide +kernel
theorem dX5_moveLines_3 : decode cX5_moveLines 3 = .ok (.iload 4, 2) := by decide +kernel
theorem dX5_moveLines_5 : decode cX5_moveLines 5 = .ok (.iload_n 2, 1) := by decide +kernel
theorem dX5_moveLines_6 : decode cX5_moveLines 6 = .ok (.if_icmp .ge 39, 3) := by decide +kernel
theorem dX5_moveLines_9 : decode cX5_moveLines 9 = .ok (.iload_n 3, 1) := by decide +kernel
theorem dX5_moveLines_10 : decode cX5_moveLines 10 = .ok (.iload_n 1, 1) := by decide +kernel
theorem dX5_moveLines_11 : decode cX5_moveLines 11 = .ok (.if_icmp .ge 18, 3) := by decide +kernel
theorem dX5_moveLines_14 : decode cX5_moveLines 14 = .ok (.aload_n 0, 1) := by decide +kernel
theorem dX5_moveLines_15 : decode cX5_moveLines 15 = .ok (.iload_n 1, 1) := by decide +kernel
theorem dX5_moveLines_16 : decode cX5_moveLines 16 = .ok (.iload 4, 2) := by decide +kernel
theorem dX5_moveLines_18 : decode cX5_moveLines 18 = .ok (.iadd, 1) := by decide +kernel
theorem dX5_moveLines_19 : decode cX5_moveLines 19 = .ok (.iload_n 3, 1) := by decide +kernel
theorem dX5_moveLines_20 : decode cX5_moveLines 20 = .ok (.iload 4, 2) := by decide +kernel
theorem dX5_moveLines_22 : decode cX5_moveLines 22 = .ok (.iadd, 1) := by decide +kernel
theorem dX5_moveLines_23 : decode cX5_moveLines 23 = .ok (.invokevirtual 40, 3) := by decide +kernel
theorem dX5_moveLines_26 : decode cX5_moveLines 26 = .ok (.goto 13, 3) := by decide +kernel
theorem dX5_moveLines_29 : decode cX5_moveLines 29 = .ok (.aload_n 0, 1) := by decide +kernel
theorem dX5_moveLines_30 : decode cX5_moveLines 30 = .ok (.iload_n 1, 1) := by decide +kernel
theorem dX5_moveLines_31 : decode cX5_moveLines 31 = .ok (.iload_n 3, 1) := by decide +kernel
theorem dX5_moveLines_32 : decode cX5_moveLines 32 = .ok (.iload_n 2, 1) := by decide +kernel
theorem dX5_moveLines_33 : decode cX5_moveLines 33 = .ok (.iadd, 1) := by decide +kernel
theorem dX5_moveLines_34 : decode cX5_moveLines 34 = .ok (.iconst 1, 1) := by decide +kernel
theorem dX5_moveLines_35 : decode cX5_moveLines 35 = .ok (.isub, 1) := by decide +kernel
theorem dX5_moveLines_36 : decode cX5_moveLines 36 = .ok (.invokevirtual 40, 3) := by decide +kernel
theorem dX5_moveLines_39 : decode cX5_moveLines 39 = .ok (.iinc 4 1, 3) := by decide +kernel
theorem dX5_moveLines_42 : decode cX5_moveLines 42 = .ok (.goto (-39), 3) := by decide +kernel
theorem dX5_moveLines_45 : decode cX5_moveLines 45 = .ok (.return_, 1) := by decide +kernel
theorem dX5_becomeLike_0 : decode cX5_becomeLike 0 = .ok (.aload_n 0, 1) := by decide +kernel
theorem dX5_becomeLike_1 : decode cX5_becomeLike 1 = .ok (.aload_n 1, 1) := by decide +kernel
theorem dX5_becomeLike_2 : decode cX5_becomeLike 2 = .ok (.getfield 21, 3) := by decide +kernel
theorem dX5_becomeLike_5 : decode cX5_becomeLike 5 = .ok (.putfield 21, 3) := by decide +kernel
theorem dX5_becomeLike_8 : decode cX5_becomeLike 8 = .ok (.iconst 0, 1) := by decide +kernel
theorem dX5_becomeLike_9 : decode cX5_becomeLike 9 = .ok (.istore_n 2, 1) := by decide +kernel
theorem dX5_becomeLike_10 : decode cX5_becomeLike 10 = .ok (.iload_n 2, 1) := by decide +kernel
theorem dX5_becomeLike_11 : decode cX5_becomeLike 11 = .ok (.aload_n 0, 1) := by decide +kernel
theorem dX5_becomeLike_12 : decode cX5_becomeLike 12 = .ok (.getfield 11, 3) := by decide +kernel
theorem dX5_becomeLike_15 : decode cX5_becomeLike 15 = .ok (.arraylength, 1) := by decide +kernel
theorem dX5_becomeLike_16 : decode cX5_becomeLike 16 = .ok (.if_icmp .ge 20, 3) := by decide +kernel
theorem dX5_becomeLike_19 : decode cX5_becomeLike 19 = .ok (.aload_n 0, 1) := by decide +kernel
theorem dX5_becomeLike_20 : decode cX5_becomeLike 20 = .ok (.getfield 11, 3) := by decide +kernel
theorem dX5_becomeLike_23 : decode cX5_becomeLike 23 = .ok (.iload_n 2, 1) := by decide +kernel
theorem dX5_becomeLike_24 : decode cX5_becomeLike 24 = .ok (.aload_n 1, 1) := by decide +kernel
theorem dX5_becomeLike_25 : decode cX5_becomeLike 25 = .ok (.iload_n 2, 1) := by decide +kernel
theorem dX5_becomeLike_26 : decode cX5_becomeLike 26 = .ok (.invokevirtual 32, 3) := by decide +kernel
theorem dX5_becomeLike_29 : decode cX5_becomeLike 29 = .ok (.aastore, 1) := by decide +kernel
theorem dX5_becomeLike_30 : decode cX5_becomeLike 30 = .ok (.iinc 2 1, 3) := by decide +kernel
theorem dX5_becomeLike_33 : decode cX5_becomeLike 33 = .ok (.goto (-23), 3) := by decide +kernel
theorem dX5_becomeLike_36 : decode cX5_becomeLike 36 = .ok (.iconst 0, 1) := by decide +kernel
theorem dX5_becomeLike_37 : decode cX5_becomeLike 37 = .ok (.istore_n 2, 1) := by decide +kernel
theorem dX5_becomeLike_38 : decode cX5_becomeLike 38 = .ok (.iload_n 2, 1) := by decide +kernel
theorem dX5_becomeLike_39 : decode cX5_becomeLike 39 = .ok (.aload_n 0, 1) := by decide +kernel
theorem dX5_becomeLike_40 : decode cX5_becomeLike 40 = .ok (.getfield 17, 3) := by decide +kernel
theorem dX5_becomeLike_43 : decode cX5_becomeLike 43 = .ok (.arraylength, 1) := by decide +kernel
theorem dX5_becomeLike_44 : decode cX5_becomeLike 44 = .ok (.if_icmp .ge 20, 3) := by decide +kernel
theorem dX5_becomeLike_47 : decode cX5_becomeLike 47 = .ok (.aload_n 0, 1) := by decide +kernel
theorem dX5_becomeLike_48 : decode cX5_becomeLike 48 = .ok (.getfield 17, 3) := by decide +kernel
theorem dX5_becomeLike_51 : decode cX5_becomeLike 51 = .ok (.iload_n 2, 1) := by decide +kernel
theorem dX5_becomeLike_52 : decode cX5_becomeLike 52 = .ok (.aload_n 1, 1) := by decide +kernel
theorem dX5_becomeLike_53 : decode cX5_becomeLike 53 = .ok (.iload_n 2, 1) := by decide +kernel
theorem dX5_becomeLike_54 : decode cX5_becomeLike 54 = .ok (.invokevirtual 44, 3) := by decide +kernel
theorem dX5_becomeLike_57 : decode cX5_becomeLike 57 = .ok (.iastore, 1) := by decide +kernel
theorem dX5_becomeLike_58 : decode cX5_becomeLike 58 = .ok (.iinc 2 1, 3) := by decide +kernel
theorem dX5_becomeLike_61 : decode cX5_becomeLike 61 = .ok (.goto (-23), 3) := by decide +kernel
theorem dX5_becomeLike_64 : decode cX5_becomeLike 64 = .ok (.return_, 1) := by decide +kernel
theorem dX5_moveLine_0 : decode cX5_moveLine 0 = .ok (.aload_n 0, 1) := by decide +kernel
theorem dX5_moveLine_1 : decode cX5_moveLine 1 = .ok (.iload_n 1, 1) := by decide +kernel
theorem dX5_moveLine_2 : decode cX5_moveLine 2 = .ok (.invokevirtual 32, 3) := by decide +kernel
theorem dX5_moveLine_5 : decode cX5_moveLine 5 = .ok (.astore_n 3, 1) := by decide +kernel
theorem dX5_moveLine_6 : decode cX5_moveLine 6 = .ok (.aload_n 0, 1) := by decide +kernel
theorem dX5_moveLine_7 : decode cX5_moveLine 7 = .ok (.iload_n 1, 1) := by decide +kernel
theorem dX5_moveLine_8 : decode cX5_moveLine 8 = .ok (.invokevirtual 48, 3) := by decide +kernel
theorem dX5_moveLine_11 : decode cX5_moveLine 11 = .ok (.aload_n 0, 1) := by decide +kernel
theorem dX5_moveLine_12 : decode cX5_moveLine 12 = .ok (.iload_n 2, 1) := by decide +kernel
theorem dX5_moveLine_13 : decode cX5_moveLine 13 = .ok (.aload_n 3, 1) := by decide +kernel
theorem dX5_moveLine_14 : decode cX5_moveLine 14 = .ok (.invokevirtual 52, 3) := by decide +kernel
theorem dX5_moveLine_17 : decode cX5_moveLine 17 = .ok (.return_, 1) := by decide +kernel
theorem dX6_init_0 : decode cX6_init 0 = .ok (.aload_n 0, 1) := by decide +kernel
theorem dX6_init_1 : decode cX6_init 1 = .ok (.invokespecial 1, 3) := by decide +kernel
theorem dX6_init_4 : decode cX6_init 4 = .ok (.return_, 1) := by decide +kernel
theorem dX6_end_0 : decode cX6_end 0 = .ok (.aload_n 0, 1) := by decide +kernel
theorem dX6_end_1 : decode cX6_end 1 = .ok (.getfield 7, 3) := by decide +kernel
theorem dX6_end_4 : decode cX6_end 4 = .ok (.aload_n 0, 1) := by decide +kernel
theorem dX6_end_5 : decode cX6_end 5 = .ok (.getfield 13, 3) := by decide +kernel
theorem dX6_end_8 : decode cX6_end 8 = .ok (.iadd, 1) := by decide +kernel
theorem dX6_end_9 : decode cX6_end 9 = .ok (.ireturn, 1) := by decide +kernel
theorem dX7_init_0 : decode cX7_init 0 = .ok (.aload_n 0, 1) := by decide +kernel
theorem dX7_init_1 : decode cX7_init 1 = .ok (.invokespecial 1, 3) := by decide +kernel
theorem dX7_init_4 : decode cX7_init 4 = .ok (.return_, 1) := by decide +kernel
theorem dX8_init_0 : decode cX8_init 0 = .ok (.aload_n 0, 1) := by decide +kernel
theorem dX8_init_1 : decode cX8_init 1 = .ok (.invokespecial 3, 3) := by decide +kernel
theorem dX8_init_4 : decode cX8_init 4 = .ok (.aload_n 0, 1) := by decide +kernel
theorem dX8_init_5 : decode cX8_init 5 = .ok (.bipush 80, 2) := by decide +kernel
theorem dX8_init_7 : decode cX8_init 7 = .ok (.newarray .byte, 2) := by decide +kernel
theorem dX8_init_9 : decode cX8_init 9 = .ok (.putfield 9, 3) := by decide +kernel
theorem dX8_init_12 : decode cX8_init 12 = .ok (.aload_n 0, 1) := by decide +kernel
theorem dX8_init_13 : decode cX8_init 13 = .ok (.iconst 0, 1) := by decide +kernel
theorem dX8_init_14 : decode cX8_init 14 = .ok (.putfield 15, 3) := by decide +kernel
theorem dX8_init_17 : decode cX8_init 17 = .ok (.return_, 1) := by decide +kernel
theorem dX8_append_0 : decode cX8_append 0 = .ok (.aload_n 0, 1) := by decide +kernel
theorem dX8_append_1 : decode cX8_append 1 = .ok (.getfield 15, 3) := by decide +kernel
theorem dX8_append_4 : decode cX8_append 4 = .ok (.ifCond .lt 36, 3) := by decide +kernel
theorem dX8_append_7 : decode cX8_append 7 = .ok (.aload_n 0, 1) := by decide +kernel
theorem dX8_append_8 : decode cX8_append 8 = .ok (.getfield 15, 3) := by decide +kernel
theorem dX8_append_11 : decode cX8_append 11 = .ok (.aload_n 0, 1) := by decide +kernel
theorem dX8_append_12 : decode cX8_append 12 = .ok (.getfield 9, 3) := by decide +kernel
theorem dX8_append_15 : decode cX8_append 15 = .ok (.arraylength, 1) := by decide +kernel
theorem dX8_append_16 : decode cX8_append 16 = .ok (.if_icmp .ge 24, 3) := by decide +kernel
theorem dX8_append_19 : decode cX8_append 19 = .ok (.aload_n 0, 1) := by decide +kernel
theorem dX8_append_20 : decode cX8_append 20 = .ok (.getfield 9, 3) := by decide +kernel
theorem dX8_append_23 : decode cX8_append 23 = .ok (.aload_n 0, 1) := by decide +kernel
theorem dX8_append_24 : decode cX8_append 24 = .ok (.getfield 15, 3) := by decide +kernel
theorem dX8_append_27 : decode cX8_append 27 = .ok (.iload_n 1, 1) := by decide +kernel
theorem dX8_append_28 : decode cX8_append 28 = .ok (.i2b, 1) := by decide +kernel
theorem dX8_append_29 : decode cX8_append 29 = .ok (.bastore, 1) := by decide +kernel
theorem dX8_append_30 : decode cX8_append 30 = .ok (.aload_n 0, 1) := by decide +kernel
theorem dX8_append_31 : decode cX8_append 31 = .ok (.dup, 1) := by decide +kernel
theorem dX8_append_32 : decode cX8_append 32 = .ok (.getfield 15, 3) := by decide +kernel
theorem dX8_append_35 : decode cX8_append 35 = .ok (.iconst 1, 1) := by decide +kernel
theorem dX8_append_36 : decode cX8_append 36 = .ok (.iadd, 1) := by decide +kernel
theorem dX8_append_37 : decode cX8_append 37 = .ok (.putfield 15, 3) := by decide +kernel
theorem dX8_append_40 : decode cX8_append 40 = .ok (.return_, 1) := by decide +kernel
theorem dX8_byteAt_0 : decode cX8_byteAt 0 = .ok (.iload_n 1, 1) := by decide +kernel
theorem dX8_byteAt_1 : decode cX8_byteAt 1 = .ok (.ifCond .lt 20, 3) := by decide +kernel
theorem dX8_byteAt_4 : decode cX8_byteAt 4 = .ok (.iload_n 1, 1) := by decide +kernel
theorem dX8_byteAt_5 : decode cX8_byteAt 5 = .ok (.aload_n 0, 1) := by decide +kernel
theorem dX8_byteAt_6 : decode cX8_byteAt 6 = .ok (.getfield 15, 3) := by decide +kernel
theorem dX8_byteAt_9 : decode cX8_byteAt 9 = .ok (.if_icmp .ge 12, 3) := by decide +kernel
theorem dX8_byteAt_12 : decode cX8_byteAt 12 = .ok (.iload_n 1, 1) := by decide +kernel
theorem dX8_byteAt_13 : decode cX8_byteAt 13 = .ok (.aload_n 0, 1) := by decide +kernel
theorem dX8_byteAt_14 : decode cX8_byteAt 14 = .ok (.getfield 9, 3) := by decide +kernel
theorem dX8_byteAt_17 : decode cX8_byteAt 17 = .ok (.arraylength, 1) := by decide +kernel
theorem dX8_byteAt_18 : decode cX8_byteAt 18 = .ok (.if_icmp .lt 7, 3) := by decide +kernel
theorem dX8_byteAt_21 : decode cX8_byteAt 21 = .ok (.iconst (-1), 1) := by decide +kernel
theorem dX8_byteAt_22 : decode cX8_byteAt 22 = .ok (.goto 9, 3) := by decide +kernel
theorem dX8_byteAt_25 : decode cX8_byteAt 25 = .ok (.aload_n 0, 1) := by decide +kernel
theorem dX8_byteAt_26 : decode cX8_byteAt 26 = .ok (.getfield 9, 3) := by decide +kernel
theorem dX8_byteAt_29 : decode cX8_byteAt 29 = .ok (.iload_n 1, 1) := by decide +kernel
theorem dX8_byteAt_30 : decode cX8_byteAt 30 = .ok (.baload, 1) := by decide +kernel
theorem dX8_byteAt_31 : decode cX8_byteAt 31 = .ok (.ireturn, 1) := by decide +kernel
theorem dX8_lineFault_0 : decode cX8_lineFault 0 = .ok (.aload_n 0, 1) := by decide +kernel
theorem dX8_lineFault_1 : decode cX8_lineFault 1 = .ok (.iconst 0, 1) := by decide +kernel
theorem dX8_lineFault_2 : decode cX8_lineFault 2 = .ok (.invokevirtual 19, 3) := by decide +kernel
theorem dX8_lineFault_5 : decode cX8_lineFault 5 = .ok (.istore_n 1, 1) := by decide +kernel
theorem dX8_lineFault_6 : decode cX8_lineFault 6 = .ok (.aload_n 0, 1) := by decide +kernel
theorem dX8_lineFault_7 : decode cX8_lineFault 7 = .ok (.iload_n 1, 1) := by decide +kernel
theorem dX8_lineFault_8 : decode cX8_lineFault 8 = .ok (.invokevirtual 23, 3) := by decide +kernel
theorem dX8_lineFault_11 : decode cX8_lineFault 11 = .ok (.bipush 126, 2) := by decide +kernel
theorem dX8_lineFault_13 : decode cX8_lineFault 13 = .ok (.if_icmp .ne 11, 3) := by decide +kernel
theorem dX8_lineFault_16 : decode cX8_lineFault 16 = .ok (.aload_n 0, 1) := by decide +kernel
theorem dX8_lineFault_17 : decode cX8_lineFault 17 = .ok (.iload_n 1, 1) := by decide +kernel
theorem dX8_lineFault_18 : decode cX8_lineFault 18 = .ok (.iconst 1, 1) := by decide +kernel
theorem dX8_lineFault_19 : decode cX8_lineFault 19 = .ok (.iadd, 1) := by decide +kernel
theorem dX8_lineFault_20 : decode cX8_lineFault 20 = .ok (.invokevirtual 19, 3) := by decide +kernel
theorem dX8_lineFault_23 : decode cX8_lineFault 23 = .ok (.istore_n 1, 1) := by decide +kernel
theorem dX8_lineFault_24 : decode cX8_lineFault 24 = .ok (.iconst 0, 1) := by decide +kernel
theorem dX8_lineFault_25 : decode cX8_lineFault 25 = .ok (.istore_n 2, 1) := by decide +kernel
theorem dX8_lineFault_26 : decode cX8_lineFault 26 = .ok (.iload_n 2, 1) := by decide +kernel
theorem dX8_lineFault_27 : decode cX8_lineFault 27 = .ok (.iconst 5, 1) := by decide +kernel
theorem dX8_lineFault_28 : decode cX8_lineFault 28 = .ok (.if_icmp .ge 27, 3) := by decide +kernel
theorem dX8_lineFault_31 : decode cX8_lineFault 31 = .ok (.aload_n 0, 1) := by decide +kernel
theorem dX8_lineFault_32 : decode cX8_lineFault 32 = .ok (.iload_n 1, 1) := by decide +kernel
theorem dX8_lineFault_33 : decode cX8_lineFault 33 = .ok (.invokevirtual 23, 3) := by decide +kernel
theorem dX8_lineFault_36 : decode cX8_lineFault 36 = .ok (.bipush 62, 2) := by decide +kernel
theorem dX8_lineFault_38 : decode cX8_lineFault 38 = .ok (.if_icmp .ne 17, 3) := by decide +kernel
theorem dX8_lineFault_41 : decode cX8_lineFault 41 = .ok (.aload_n 0, 1) := by decide +kernel
theorem dX8_lineFault_42 : decode cX8_lineFault 42 = .ok (.iload_n 1, 1) := by decide +kernel
theorem dX8_lineFault_43 : decode cX8_lineFault 43 = .ok (.iconst 1, 1) := by decide +kernel
theorem dX8_lineFault_44 : decode cX8_lineFault 44 = .ok (.iadd, 1) := by decide +kernel
theorem dX8_lineFault_45 : decode cX8_lineFault 45 = .ok (.invokevirtual 19, 3) := by decide +kernel
theorem dX8_lineFault_48 : decode cX8_lineFault 48 = .ok (.istore_n 1, 1) := by decide +kernel
theorem dX8_lineFault_49 : decode cX8_lineFault 49 = .ok (.iinc 2 1, 3) := by decide +kernel
theorem dX8_lineFault_52 : decode cX8_lineFault 52 = .ok (.goto (-26), 3) := by decide +kernel
theorem dX8_lineFault_55 : decode cX8_lineFault 55 = .ok (.aload_n 0, 1) := by decide +kernel
theorem dX8_lineFault_56 : decode cX8_lineFault 56 = .ok (.iload_n 1, 1) := by decide +kernel
theorem dX8_lineFault_57 : decode cX8_lineFault 57 = .ok (.invokevirtual 23, 3) := by decide +kernel
theorem dX8_lineFault_60 : decode cX8_lineFault 60 = .ok (.invokestatic 26, 3) := by decide +kernel
theorem dX8_lineFault_63 : decode cX8_lineFault 63 = .ok (.ifCond .ne 5, 3) := by decide +kernel
theorem dX8_lineFault_66 : decode cX8_lineFault 66 = .ok (.iload_n 1, 1) := by decide +kernel
theorem dX8_lineFault_67 : decode cX8_lineFault 67 = .ok (.ireturn, 1) := by decide +kernel
theorem dX8_lineFault_68 : decode cX8_lineFault 68 = .ok (.iconst 0, 1) := by decide +kernel
theorem dX8_lineFault_69 : decode cX8_lineFault 69 = .ok (.istore_n 2, 1) := by decide +kernel
theorem dX8_lineFault_70 : decode cX8_lineFault 70 = .ok (.iload_n 2, 1) := by decide +kernel
theorem dX8_lineFault_71 : decode cX8_lineFault 71 = .ok (.bipush 80, 2) := by decide +kernel
theorem dX8_lineFault_73 : decode cX8_lineFault 73 = .ok (.if_icmp .ge 45, 3) := by decide +kernel
theorem dX8_lineFault_76 : decode cX8_lineFault 76 = .ok (.aload_n 0, 1) := by decide +kernel
theorem dX8_lineFault_77 : decode cX8_lineFault 77 = .ok (.iload_n 1, 1) := by decide +kernel
theorem dX8_lineFault_78 : decode cX8_lineFault 78 = .ok (.invokevirtual 23, 3) := by decide +kernel
theorem dX8_lineFault_81 : decode cX8_lineFault 81 = .ok (.invokestatic 26, 3) := by decide +kernel
theorem dX8_lineFault_84 : decode cX8_lineFault 84 = .ok (.ifCond .eq 34, 3) := by decide +kernel
theorem dX8_lineFault_87 : decode cX8_lineFault 87 = .ok (.aload_n 0, 1) := by decide +kernel
theorem dX8_lineFault_88 : decode cX8_lineFault 88 = .ok (.iload_n 1, 1) := by decide +kernel
theorem dX8_lineFault_89 : decode cX8_lineFault 89 = .ok (.invokevirtual 30, 3) := by decide +kernel
theorem dX8_lineFault_92 : decode cX8_lineFault 92 = .ok (.istore_n 3, 1) := by decide +kernel
theorem dX8_lineFault_93 : decode cX8_lineFault 93 = .ok (.iload_n 3, 1) := by decide +kernel
theorem dX8_lineFault_94 : decode cX8_lineFault 94 = .ok (.iload_n 1, 1) := by decide +kernel
theorem dX8_lineFault_95 : decode cX8_lineFault 95 = .ok (.isub, 1) := by decide +kernel
theorem dX8_lineFault_96 : decode cX8_lineFault 96 = .ok (.bipush 16, 2) := by decide +kernel
theorem dX8_lineFault_98 : decode cX8_lineFault 98 = .ok (.if_icmp .le 8, 3) := by decide +kernel
theorem dX8_lineFault_101 : decode cX8_lineFault 101 = .ok (.iload_n 1, 1) := by decide +kernel
theorem dX8_lineFault_102 : decode cX8_lineFault 102 = .ok (.bipush 16, 2) := by decide +kernel
theorem dX8_lineFault_104 : decode cX8_lineFault 104 = .ok (.iadd, 1) := by decide +kernel
theorem dX8_lineFault_105 : decode cX8_lineFault 105 = .ok (.ireturn, 1) := by decide +kernel
theorem dX8_lineFault_106 : decode cX8_lineFault 106 = .ok (.aload_n 0, 1) := by decide +kernel
theorem dX8_lineFault_107 : decode cX8_lineFault 107 = .ok (.iload_n 3, 1) := by decide +kernel
theorem dX8_lineFault_108 : decode cX8_lineFault 108 = .ok (.invokevirtual 19, 3) := by decide +kernel
theorem dX8_lineFault_111 : decode cX8_lineFault 111 = .ok (.istore_n 1, 1) := by decide +kernel
theorem dX8_lineFault_112 : decode cX8_lineFault 112 = .ok (.iinc 2 1, 3) := by decide +kernel
theorem dX8_lineFault_115 : decode cX8_lineFault 115 = .ok (.goto (-45), 3) := by decide +kernel
theorem dX8_lineFault_118 : decode cX8_lineFault 118 = .ok (.aload_n 0, 1) := by decide +kernel
theorem dX8_lineFault_119 : decode cX8_lineFault 119 = .ok (.iload_n 1, 1) := by decide +kernel
theorem dX8_lineFault_120 : decode cX8_lineFault 120 = .ok (.invokevirtual 23, 3) := by decide +kernel
theorem dX8_lineFault_123 : decode cX8_lineFault 123 = .ok (.bipush 47, 2) := by decide +kernel
theorem dX8_lineFault_125 : decode cX8_lineFault 125 = .ok (.if_icmp .ne 11, 3) := by decide +kernel
theorem dX8_lineFault_128 : decode cX8_lineFault 128 = .ok (.aload_n 0, 1) := by decide +kernel
theorem dX8_lineFault_129 : decode cX8_lineFault 129 = .ok (.iload_n 1, 1) := by decide +kernel
theorem dX8_lineFault_130 : decode cX8_lineFault 130 = .ok (.iconst 1, 1) := by decide +kernel
theorem dX8_lineFault_131 : decode cX8_lineFault 131 = .ok (.iadd, 1) := by decide +kernel
theorem dX8_lineFault_132 : decode cX8_lineFault 132 = .ok (.invokevirtual 19, 3) := by decide +kernel
theorem dX8_lineFault_135 : decode cX8_lineFault 135 = .ok (.istore_n 1, 1) := by decide +kernel
theorem dX8_lineFault_136 : decode cX8_lineFault 136 = .ok (.iload_n 1, 1) := by decide +kernel
theorem dX8_lineFault_137 : decode cX8_lineFault 137 = .ok (.aload_n 0, 1) := by decide +kernel
theorem dX8_lineFault_138 : decode cX8_lineFault 138 = .ok (.getfield 15, 3) := by decide +kernel
theorem dX8_lineFault_141 : decode cX8_lineFault 141 = .ok (.if_icmp .ge 7, 3) := by decide +kernel
theorem dX8_lineFault_144 : decode cX8_lineFault 144 = .ok (.iload_n 1, 1) := by decide +kernel
theorem dX8_lineFault_145 : decode cX8_lineFault 145 = .ok (.goto 4, 3) := by decide +kernel
theorem dX8_lineFault_148 : decode cX8_lineFault 148 = .ok (.iconst (-1), 1) := by decide +kernel
theorem dX8_lineFault_149 : decode cX8_lineFault 149 = .ok (.ireturn, 1) := by decide +kernel
theorem dX8_shapeFault_0 : decode cX8_shapeFault 0 = .ok (.aload_n 0, 1) := by decide +kernel
theorem dX8_shapeFault_1 : decode cX8_shapeFault 1 = .ok (.invokevirtual 33, 3) := by decide +kernel
theorem dX8_shapeFault_4 : decode cX8_shapeFault 4 = .ok (.iconst (-1), 1) := by decide +kernel
theorem dX8_shapeFault_5 : decode cX8_shapeFault 5 = .ok (.if_icmp .ne 9, 3) := by decide +kernel
theorem dX8_shapeFault_8 : decode cX8_shapeFault 8 = .ok (.aload_n 0, 1) := by decide +kernel
theorem dX8_shapeFault_9 : decode cX8_shapeFault 9 = .ok (.iconst 0, 1) := by decide +kernel
theorem dX8_shapeFault_10 : decode cX8_shapeFault 10 = .ok (.invokevirtual 19, 3) := by decide +kernel
theorem dX8_shapeFault_13 : decode cX8_shapeFault 13 = .ok (.ireturn, 1) := by decide +kernel
theorem dX8_shapeFault_14 : decode cX8_shapeFault 14 = .ok (.aload_n 0, 1) := by decide +kernel
theorem dX8_shapeFault_15 : decode cX8_shapeFault 15 = .ok (.aload_n 0, 1) := by decide +kernel
theorem dX8_shapeFault_16 : decode cX8_shapeFault 16 = .ok (.aload_n 0, 1) := by decide +kernel
theorem dX8_shapeFault_17 : decode cX8_shapeFault 17 = .ok (.iconst 0, 1) := by decide +kernel
theorem dX8_shapeFault_18 : decode cX8_shapeFault 18 = .ok (.invokevirtual 19, 3) := by decide +kernel
theorem dX8_shapeFault_21 : decode cX8_shapeFault 21 = .ok (.invokevirtual 30, 3) := by decide +kernel
theorem dX8_shapeFault_24 : decode cX8_shapeFault 24 = .ok (.invokevirtual 19, 3) := by decide +kernel
theorem dX8_shapeFault_27 : decode cX8_shapeFault 27 = .ok (.istore_n 1, 1) := by decide +kernel
theorem dX8_shapeFault_28 : decode cX8_shapeFault 28 = .ok (.iload_n 1, 1) := by decide +kernel
theorem dX8_shapeFault_29 : decode cX8_shapeFault 29 = .ok (.aload_n 0, 1) := by decide +kernel
theorem dX8_shapeFault_30 : decode cX8_shapeFault 30 = .ok (.getfield 15, 3) := by decide +kernel
theorem dX8_shapeFault_33 : decode cX8_shapeFault 33 = .ok (.if_icmp .ge 7, 3) := by decide +kernel
theorem dX8_shapeFault_36 : decode cX8_shapeFault 36 = .ok (.iload_n 1, 1) := by decide +kernel
theorem dX8_shapeFault_37 : decode cX8_shapeFault 37 = .ok (.goto 4, 3) := by decide +kernel
theorem dX8_shapeFault_40 : decode cX8_shapeFault 40 = .ok (.iconst (-1), 1) := by decide +kernel
theorem dX8_shapeFault_41 : decode cX8_shapeFault 41 = .ok (.ireturn, 1) := by decide +kernel
theorem dX8_namedShape_0 : decode cX8_namedShape 0 = .ok (.aload_n 0, 1) := by decide +kernel
theorem dX8_namedShape_1 : decode cX8_namedShape 1 = .ok (.iconst 0, 1) := by decide +kernel
theorem dX8_namedShape_2 : decode cX8_namedShape 2 = .ok (.invokevirtual 19, 3) := by decide +kernel
theorem dX8_namedShape_5 : decode cX8_namedShape 5 = .ok (.istore_n 1, 1) := by decide +kernel
theorem dX8_namedShape_6 : decode cX8_namedShape 6 = .ok (.aload_n 0, 1) := by decide +kernel
theorem dX8_namedShape_7 : decode cX8_namedShape 7 = .ok (.iload_n 1, 1) := by decide +kernel
theorem dX8_namedShape_8 : decode cX8_namedShape 8 = .ok (.invokevirtual 30, 3) := by decide +kernel
theorem dX8_namedShape_11 : decode cX8_namedShape 11 = .ok (.istore_n 2, 1) := by decide +kernel
theorem dX8_namedShape_12 : decode cX8_namedShape 12 = .ok (.iconst 0, 1) := by decide +kernel
theorem dX8_namedShape_13 : decode cX8_namedShape 13 = .ok (.istore_n 3, 1) := by decide +kernel
theorem dX8_namedShape_14 : decode cX8_namedShape 14 = .ok (.iload_n 3, 1) := by decide +kernel
theorem dX8_namedShape_15 : decode cX8_namedShape 15 = .ok (.iconst 4, 1) := by decide +kernel
theorem dX8_namedShape_16 : decode cX8_namedShape 16 = .ok (.if_icmp .ge 24, 3) := by decide +kernel
theorem dX8_namedShape_19 : decode cX8_namedShape 19 = .ok (.aload_n 0, 1) := by decide +kernel
theorem dX8_namedShape_20 : decode cX8_namedShape 20 = .ok (.iload_n 1, 1) := by decide +kernel
theorem dX8_namedShape_21 : decode cX8_namedShape 21 = .ok (.iload_n 2, 1) := by decide +kernel
theorem dX8_namedShape_22 : decode cX8_namedShape 22 = .ok (.iload_n 3, 1) := by decide +kernel
theorem dX8_namedShape_23 : decode cX8_namedShape 23 = .ok (.invokestatic 37, 3) := by decide +kernel
theorem dX8_namedShape_26 : decode cX8_namedShape 26 = .ok (.invokevirtual 41, 3) := by decide +kernel
theorem dX8_namedShape_29 : decode cX8_namedShape 29 = .ok (.ifCond .eq 5, 3) := by decide +kernel
theorem dX8_namedShape_32 : decode cX8_namedShape 32 = .ok (.iload_n 3, 1) := by decide +kernel
theorem dX8_namedShape_33 : decode cX8_namedShape 33 = .ok (.ireturn, 1) := by decide +kernel
theorem dX8_namedShape_34 : decode cX8_namedShape 34 = .ok (.iinc 3 1, 3) := by decide +kernel
theorem dX8_namedShape_37 : decode cX8_namedShape 37 = .ok (.goto (-23), 3) := by decide +kernel
theorem dX8_namedShape_40 : decode cX8_namedShape 40 = .ok (.iconst (-1), 1) := by decide +kernel
theorem dX8_namedShape_41 : decode cX8_namedShape 41 = .ok (.ireturn, 1) := by decide +kernel
theorem dX8_toLine_0 : decode cX8_toLine 0 = .ok (.new 45, 3) := by decide +kernel
theorem dX8_toLine_3 : decode cX8_toLine 3 = .ok (.dup, 1) := by decide +kernel
theorem dX8_toLine_4 : decode cX8_toLine 4 = .ok (.invokespecial 47, 3) := by decide +kernel
theorem dX8_toLine_7 : decode cX8_toLine 7 = .ok (.astore_n 1, 1) := by decide +kernel
theorem dX8_toLine_8 : decode cX8_toLine 8 = .ok (.iconst 0, 1) := by decide +kernel
theorem dX8_toLine_9 : decode cX8_toLine 9 = .ok (.istore_n 2, 1) := by decide +kernel
theorem dX8_toLine_10 : decode cX8_toLine 10 = .ok (.iconst 0, 1) := by decide +kernel
theorem dX8_toLine_11 : decode cX8_toLine 11 = .ok (.istore_n 3, 1) := by decide +kernel
theorem dX8_toLine_12 : decode cX8_toLine 12 = .ok (.iconst 0, 1) := by decide +kernel
theorem dX8_toLine_13 : decode cX8_toLine 13 = .ok (.istore 4, 2) := by decide +kernel
theorem dX8_toLine_15 : decode cX8_toLine 15 = .ok (.iconst 0, 1) := by decide +kernel
theorem dX8_toLine_16 : decode cX8_toLine 16 = .ok (.istore 5, 2) := by decide +kernel
theorem dX8_toLine_18 : decode cX8_toLine 18 = .ok (.iload 5, 2) := by decide +kernel
theorem dX8_toLine_20 : decode cX8_toLine 20 = .ok (.aload_n 0, 1) := by decide +kernel
theorem dX8_toLine_21 : decode cX8_toLine 21 = .ok (.getfield 15, 3) := by decide +kernel
theorem dX8_toLine_24 : decode cX8_toLine 24 = .ok (.if_icmp .ge 87, 3) := by decide +kernel
theorem dX8_toLine_27 : decode cX8_toLine 27 = .ok (.aload_n 0, 1) := by decide +kernel
theorem dX8_toLine_28 : decode cX8_toLine 28 = .ok (.iload 5, 2) := by decide +kernel
theorem dX8_toLine_30 : decode cX8_toLine 30 = .ok (.invokevirtual 23, 3) := by decide +kernel
theorem dX8_toLine_33 : decode cX8_toLine 33 = .ok (.istore 6, 2) := by decide +kernel
theorem dX8_toLine_35 : decode cX8_toLine 35 = .ok (.iload 6, 2) := by decide +kernel
theorem dX8_toLine_37 : decode cX8_toLine 37 = .ok (.invokestatic 26, 3) := by decide +kernel
theorem dX8_toLine_40 : decode cX8_toLine 40 = .ok (.ifCond .eq 31, 3) := by decide +kernel
theorem dX8_toLine_43 : decode cX8_toLine 43 = .ok (.aload_n 1, 1) := by decide +kernel
theorem dX8_toLine_44 : decode cX8_toLine 44 = .ok (.iload 6, 2) := by decide +kernel
theorem dX8_toLine_46 : decode cX8_toLine 46 = .ok (.aload_n 0, 1) := by decide +kernel
theorem dX8_toLine_47 : decode cX8_toLine 47 = .ok (.iload 5, 2) := by decide +kernel
theorem dX8_toLine_49 : decode cX8_toLine 49 = .ok (.iconst 1, 1) := by decide +kernel
theorem dX8_toLine_50 : decode cX8_toLine 50 = .ok (.isub, 1) := by decide +kernel
theorem dX8_toLine_51 : decode cX8_toLine 51 = .ok (.invokevirtual 23, 3) := by decide +kernel
theorem dX8_toLine_54 : decode cX8_toLine 54 = .ok (.invokestatic 26, 3) := by decide +kernel
theorem dX8_toLine_57 : decode cX8_toLine 57 = .ok (.ifCond .ne 7, 3) := by decide +kernel
theorem dX8_toLine_60 : decode cX8_toLine 60 = .ok (.iconst 1, 1) := by decide +kernel
theorem dX8_toLine_61 : decode cX8_toLine 61 = .ok (.goto 4, 3) := by decide +kernel
theorem dX8_toLine_64 : decode cX8_toLine 64 = .ok (.iconst 0, 1) := by decide +kernel
theorem dX8_toLine_65 : decode cX8_toLine 65 = .ok (.invokevirtual 48, 3) := by decide +kernel
theorem dX8_toLine_68 : decode cX8_toLine 68 = .ok (.goto 37, 3) := by decide +kernel
theorem dX8_toLine_71 : decode cX8_toLine 71 = .ok (.iload 6, 2) := by decide +kernel
theorem dX8_toLine_73 : decode cX8_toLine 73 = .ok (.bipush 126, 2) := by decide +kernel
theorem dX8_toLine_75 : decode cX8_toLine 75 = .ok (.if_icmp .ne 8, 3) := by decide +kernel
theorem dX8_toLine_78 : decode cX8_toLine 78 = .ok (.iconst 1, 1) := by decide +kernel
theorem dX8_toLine_79 : decode cX8_toLine 79 = .ok (.istore_n 2, 1) := by decide +kernel
theorem dX8_toLine_80 : decode cX8_toLine 80 = .ok (.goto 25, 3) := by decide +kernel
theorem dX8_toLine_83 : decode cX8_toLine 83 = .ok (.iload 6, 2) := by decide +kernel
theorem dX8_toLine_85 : decode cX8_toLine 85 = .ok (.bipush 62, 2) := by decide +kernel
theorem dX8_toLine_87 : decode cX8_toLine 87 = .ok (.if_icmp .ne 9, 3) := by decide +kernel
theorem dX8_toLine_90 : decode cX8_toLine 90 = .ok (.iinc 4 1, 3) := by decide +kernel
theorem dX8_toLine_93 : decode cX8_toLine 93 = .ok (.goto 12, 3) := by decide +kernel
theorem dX8_toLine_96 : decode cX8_toLine 96 = .ok (.iload 6, 2) := by decide +kernel
theorem dX8_toLine_98 : decode cX8_toLine 98 = .ok (.bipush 47, 2) := by decide +kernel
theorem dX8_toLine_100 : decode cX8_toLine 100 = .ok (.if_icmp .ne 5, 3) := by decide +kernel
theorem dX8_toLine_103 : decode cX8_toLine 103 = .ok (.iconst 1, 1) := by decide +kernel
theorem dX8_toLine_104 : decode cX8_toLine 104 = .ok (.istore_n 3, 1) := by decide +kernel
theorem dX8_toLine_105 : decode cX8_toLine 105 = .ok (.iinc 5 1, 3) := by decide +kernel
theorem dX8_toLine_108 : decode cX8_toLine 108 = .ok (.goto (-90), 3) := by decide +kernel
theorem dX8_toLine_111 : decode cX8_toLine 111 = .ok (.new 52, 3) := by decide +kernel
theorem dX8_toLine_114 : decode cX8_toLine 114 = .ok (.dup, 1) := by decide +kernel
theorem dX8_toLine_115 : decode cX8_toLine 115 = .ok (.aload_n 1, 1) := by decide +kernel
theorem dX8_toLine_116 : decode cX8_toLine 116 = .ok (.iload 4, 2) := by decide +kernel
theorem dX8_toLine_118 : decode cX8_toLine 118 = .ok (.iload_n 2, 1) := by decide +kernel
theorem dX8_toLine_119 : decode cX8_toLine 119 = .ok (.iload_n 3, 1) := by decide +kernel
theorem dX8_toLine_120 : decode cX8_toLine 120 = .ok (.invokespecial 54, 3) := by decide +kernel
theorem dX8_toLine_123 : decode cX8_toLine 123 = .ok (.areturn, 1) := by decide +kernel
theorem dX8_behindBlanks_0 : decode cX8_behindBlanks 0 = .ok (.iload_n 1, 1) := by decide +kernel
theorem dX8_behindBlanks_1 : decode cX8_behindBlanks 1 = .ok (.istore_n 2, 1) := by decide +kernel
theorem dX8_behindBlanks_2 : decode cX8_behindBlanks 2 = .ok (.iload_n 2, 1) := by decide +kernel
theorem dX8_behindBlanks_3 : decode cX8_behindBlanks 3 = .ok (.aload_n 0, 1) := by decide +kernel
theorem dX8_behindBlanks_4 : decode cX8_behindBlanks 4 = .ok (.getfield 15, 3) := by decide +kernel
theorem dX8_behindBlanks_7 : decode cX8_behindBlanks 7 = .ok (.if_icmp .ge 19, 3) := by decide +kernel
theorem dX8_behindBlanks_10 : decode cX8_behindBlanks 10 = .ok (.aload_n 0, 1) := by decide +kernel
theorem dX8_behindBlanks_11 : decode cX8_behindBlanks 11 = .ok (.iload_n 2, 1) := by decide +kernel
theorem dX8_behindBlanks_12 : decode cX8_behindBlanks 12 = .ok (.invokevirtual 23, 3) := by decide +kernel
theorem dX8_behindBlanks_15 : decode cX8_behindBlanks 15 = .ok (.bipush 32, 2) := by decide +kernel
theorem dX8_behindBlanks_17 : decode cX8_behindBlanks 17 = .ok (.if_icmp .ne 9, 3) := by decide +kernel
theorem dX8_behindBlanks_20 : decode cX8_behindBlanks 20 = .ok (.iinc 2 1, 3) := by decide +kernel
theorem dX8_behindBlanks_23 : decode cX8_behindBlanks 23 = .ok (.goto (-21), 3) := by decide +kernel
theorem dX8_behindBlanks_26 : decode cX8_behindBlanks 26 = .ok (.iload_n 2, 1) := by decide +kernel
theorem dX8_behindBlanks_27 : decode cX8_behindBlanks 27 = .ok (.ireturn, 1) := by decide +kernel
theorem dX8_behindLetters_0 : decode cX8_behindLetters 0 = .ok (.iload_n 1, 1) := by decide +kernel
theorem dX8_behindLetters_1 : decode cX8_behindLetters 1 = .ok (.istore_n 2, 1) := by decide +kernel
theorem dX8_behindLetters_2 : decode cX8_behindLetters 2 = .ok (.iload_n 2, 1) := by decide +kernel
theorem dX8_behindLetters_3 : decode cX8_behindLetters 3 = .ok (.aload_n 0, 1) := by decide +kernel
theorem dX8_behindLetters_4 : decode cX8_behindLetters 4 = .ok (.getfield 15, 3) := by decide +kernel
theorem dX8_behindLetters_7 : decode cX8_behindLetters 7 = .ok (.if_icmp .ge 20, 3) := by decide +kernel
theorem dX8_behindLetters_10 : decode cX8_behindLetters 10 = .ok (.aload_n 0, 1) := by decide +kernel
theorem dX8_behindLetters_11 : decode cX8_behindLetters 11 = .ok (.iload_n 2, 1) := by decide +kernel
theorem dX8_behindLetters_12 : decode cX8_behindLetters 12 = .ok (.invokevirtual 23, 3) := by decide +kernel
theorem dX8_behindLetters_15 : decode cX8_behindLetters 15 = .ok (.invokestatic 26, 3) := by decide +kernel
theorem dX8_behindLetters_18 : decode cX8_behindLetters 18 = .ok (.ifCond .eq 9, 3) := by decide +kernel
theorem dX8_behindLetters_21 : decode cX8_behindLetters 21 = .ok (.iinc 2 1, 3) := by decide +kernel
theorem dX8_behindLetters_24 : decode cX8_behindLetters 24 = .ok (.goto (-22), 3) := by decide +kernel
theorem dX8_behindLetters_27 : decode cX8_behindLetters 27 = .ok (.iload_n 2, 1) := by decide +kernel
theorem dX8_behindLetters_28 : decode cX8_behindLetters 28 = .ok (.ireturn, 1) := by decide +kernel
theorem dX8_isBetween_0 : decode cX8_isBetween 0 = .ok (.iload_n 2, 1) := by decide +kernel
theorem dX8_isBetween_1 : decode cX8_isBetween 1 = .ok (.iload_n 1, 1) := by decide +kernel
theorem dX8_isBetween_2 : decode cX8_isBetween 2 = .ok (.isub, 1) := by decide +kernel
theorem dX8_isBetween_3 : decode cX8_isBetween 3 = .ok (.aload_n 3, 1) := by decide +kernel
theorem dX8_isBetween_4 : decode cX8_isBetween 4 = .ok (.invokevirtual 57, 3) := by decide +kernel
theorem dX8_isBetween_7 : decode cX8_isBetween 7 = .ok (.if_icmp .eq 5, 3) := by decide +kernel
theorem dX8_isBetween_10 : decode cX8_isBetween 10 = .ok (.iconst 0, 1) := by decide +kernel
theorem dX8_isBetween_11 : decode cX8_isBetween 11 = .ok (.ireturn, 1) := by decide +kernel
theorem dX8_isBetween_12 : decode cX8_isBetween 12 = .ok (.iconst 0, 1) := by decide +kernel
theorem dX8_isBetween_13 : decode cX8_isBetween 13 = .ok (.istore 4, 2) := by decide +kernel
theorem dX8_isBetween_15 : decode cX8_isBetween 15 = .ok (.iload 4, 2) := by decide +kernel
theorem dX8_isBetween_17 : decode cX8_isBetween 17 = .ok (.aload_n 3, 1) := by decide +kernel
theorem dX8_isBetween_18 : decode cX8_isBetween 18 = .ok (.invokevirtual 57, 3) := by decide +kernel
theorem dX8_isBetween_21 : decode cX8_isBetween 21 = .ok (.if_icmp .ge 28, 3) := by decide +kernel
theorem dX8_isBetween_24 : decode cX8_isBetween 24 = .ok (.aload_n 0, 1) := by decide +kernel
theorem dX8_isBetween_25 : decode cX8_isBetween 25 = .ok (.iload_n 1, 1) := by decide +kernel
theorem dX8_isBetween_26 : decode cX8_isBetween 26 = .ok (.iload 4, 2) := by decide +kernel
theorem dX8_isBetween_28 : decode cX8_isBetween 28 = .ok (.iadd, 1) := by decide +kernel
theorem dX8_isBetween_29 : decode cX8_isBetween 29 = .ok (.invokevirtual 23, 3) := by decide +kernel
theorem dX8_isBetween_32 : decode cX8_isBetween 32 = .ok (.aload_n 3, 1) := by decide +kernel
theorem dX8_isBetween_33 : decode cX8_isBetween 33 = .ok (.iload 4, 2) := by decide +kernel
theorem dX8_isBetween_35 : decode cX8_isBetween 35 = .ok (.invokevirtual 61, 3) := by decide +kernel
theorem dX8_isBetween_38 : decode cX8_isBetween 38 = .ok (.if_icmp .eq 5, 3) := by decide +kernel
theorem dX8_isBetween_41 : decode cX8_isBetween 41 = .ok (.iconst 0, 1) := by decide +kernel
theorem dX8_isBetween_42 : decode cX8_isBetween 42 = .ok (.ireturn, 1) := by decide +kernel
theorem dX8_isBetween_43 : decode cX8_isBetween 43 = .ok (.iinc 4 1, 3) := by decide +kernel
theorem dX8_isBetween_46 : decode cX8_isBetween 46 = .ok (.goto (-31), 3) := by decide +kernel
theorem dX8_isBetween_49 : decode cX8_isBetween 49 = .ok (.iconst 1, 1) := by decide +kernel
theorem dX8_isBetween_50 : decode cX8_isBetween 50 = .ok (.ireturn, 1) := by decide +kernel
theorem dX9_init_0 : decode cX9_init 0 = .ok (.aload_n 0, 1) := by decide +kernel
theorem dX9_init_1 : decode cX9_init 1 = .ok (.invokespecial 3, 3) := by decide +kernel
theorem dX9_init_4 : decode cX9_init 4 = .ok (.aload_n 0, 1) := by decide +kernel
theorem dX9_init_5 : decode cX9_init 5 = .ok (.bipush 80, 2) := by decide +kernel
theorem dX9_init_7 : decode cX9_init 7 = .ok (.newarray .byte, 2) := by decide +kernel
theorem dX9_init_9 : decode cX9_init 9 = .ok (.putfield 9, 3) := by decide +kernel
theorem dX9_init_12 : decode cX9_init 12 = .ok (.aload_n 0, 1) := by decide +kernel
theorem dX9_init_13 : decode cX9_init 13 = .ok (.bipush 40, 2) := by decide +kernel
theorem dX9_init_15 : decode cX9_init 15 = .ok (.newarray .int, 2) := by decide +kernel
theorem dX9_init_17 : decode cX9_init 17 = .ok (.putfield 15, 3) := by decide +kernel
theorem dX9_init_20 : decode cX9_init 20 = .ok (.aload_n 0, 1) := by decide +kernel
theorem dX9_init_21 : decode cX9_init 21 = .ok (.iconst 0, 1) := by decide +kernel
theorem dX9_init_22 : decode cX9_init 22 = .ok (.putfield 19, 3) := by decide +kernel
theorem dX9_init_25 : decode cX9_init 25 = .ok (.aload_n 0, 1) := by decide +kernel
theorem dX9_init_26 : decode cX9_init 26 = .ok (.iconst 0, 1) := by decide +kernel
theorem dX9_init_27 : decode cX9_init 27 = .ok (.putfield 23, 3) := by decide +kernel
theorem dX9_init_30 : decode cX9_init 30 = .ok (.aload_n 0, 1) := by decide +kernel
theorem dX9_init_31 : decode cX9_init 31 = .ok (.iconst 0, 1) := by decide +kernel
theorem dX9_init_32 : decode cX9_init 32 = .ok (.putfield 26, 3) := by decide +kernel
theorem dX9_init_35 : decode cX9_init 35 = .ok (.return_, 1) := by decide +kernel
theorem dX9_add_0 : decode cX9_add 0 = .ok (.iload_n 2, 1) := by decide +kernel
theorem dX9_add_1 : decode cX9_add 1 = .ok (.ifCond .eq 26, 3) := by decide +kernel
theorem dX9_add_4 : decode cX9_add 4 = .ok (.aload_n 0, 1) := by decide +kernel
theorem dX9_add_5 : decode cX9_add 5 = .ok (.getfield 23, 3) := by decide +kernel
theorem dX9_add_8 : decode cX9_add 8 = .ok (.ifCond .le 9, 3) := by decide +kernel
theorem dX9_add_11 : decode cX9_add 11 = .ok (.aload_n 0, 1) := by decide +kernel
theorem dX9_add_12 : decode cX9_add 12 = .ok (.bipush 32, 2) := by decide +kernel
theorem dX9_add_14 : decode cX9_add 14 = .ok (.invokevirtual 29, 3) := by decide +kernel
theorem dX9_add_17 : decode cX9_add 17 = .ok (.aload_n 0, 1) := by decide +kernel
theorem dX9_add_18 : decode cX9_add 18 = .ok (.dup, 1) := by decide +kernel
theorem dX9_add_19 : decode cX9_add 19 = .ok (.getfield 23, 3) := by decide +kernel
theorem dX9_add_22 : decode cX9_add 22 = .ok (.iconst 1, 1) := by decide +kernel
theorem dX9_add_23 : decode cX9_add 23 = .ok (.iadd, 1) := by decide +kernel
theorem dX9_add_24 : decode cX9_add 24 = .ok (.putfield 23, 3) := by decide +kernel
theorem dX9_add_27 : decode cX9_add 27 = .ok (.aload_n 0, 1) := by decide +kernel
theorem dX9_add_28 : decode cX9_add 28 = .ok (.iload_n 1, 1) := by decide +kernel
theorem dX9_add_29 : decode cX9_add 29 = .ok (.invokevirtual 29, 3) := by decide +kernel
theorem dX9_add_32 : decode cX9_add 32 = .ok (.aload_n 0, 1) := by decide +kernel
theorem dX9_add_33 : decode cX9_add 33 = .ok (.dup, 1) := by decide +kernel
theorem dX9_add_34 : decode cX9_add 34 = .ok (.getfield 26, 3) := by decide +kernel
theorem dX9_add_37 : decode cX9_add 37 = .ok (.iconst 1, 1) := by decide +kernel
theorem dX9_add_38 : decode cX9_add 38 = .ok (.iadd, 1) := by decide +kernel
theorem dX9_add_39 : decode cX9_add 39 = .ok (.putfield 26, 3) := by decide +kernel
theorem dX9_add_42 : decode cX9_add 42 = .ok (.aload_n 0, 1) := by decide +kernel
theorem dX9_add_43 : decode cX9_add 43 = .ok (.getfield 23, 3) := by decide +kernel
theorem dX9_add_46 : decode cX9_add 46 = .ok (.ifCond .le 30, 3) := by decide +kernel
theorem dX9_add_49 : decode cX9_add 49 = .ok (.aload_n 0, 1) := by decide +kernel
theorem dX9_add_50 : decode cX9_add 50 = .ok (.getfield 23, 3) := by decide +kernel
theorem dX9_add_53 : decode cX9_add 53 = .ok (.aload_n 0, 1) := by decide +kernel
theorem dX9_add_54 : decode cX9_add 54 = .ok (.getfield 15, 3) := by decide +kernel
theorem dX9_add_57 : decode cX9_add 57 = .ok (.arraylength, 1) := by decide +kernel
theorem dX9_add_58 : decode cX9_add 58 = .ok (.if_icmp .gt 18, 3) := by decide +kernel
theorem dX9_add_61 : decode cX9_add 61 = .ok (.aload_n 0, 1) := by decide +kernel
theorem dX9_add_62 : decode cX9_add 62 = .ok (.getfield 15, 3) := by decide +kernel
theorem dX9_add_65 : decode cX9_add 65 = .ok (.aload_n 0, 1) := by decide +kernel
theorem dX9_add_66 : decode cX9_add 66 = .ok (.getfield 23, 3) := by decide +kernel
theorem dX9_add_69 : decode cX9_add 69 = .ok (.iconst 1, 1) := by decide +kernel
theorem dX9_add_70 : decode cX9_add 70 = .ok (.isub, 1) := by decide +kernel
theorem dX9_add_71 : decode cX9_add 71 = .ok (.dup2, 1) := by decide +kernel
theorem dX9_add_72 : decode cX9_add 72 = .ok (.iaload, 1) := by decide +kernel
theorem dX9_add_73 : decode cX9_add 73 = .ok (.iconst 1, 1) := by decide +kernel
theorem dX9_add_74 : decode cX9_add 74 = .ok (.iadd, 1) := by decide +kernel
theorem dX9_add_75 : decode cX9_add 75 = .ok (.iastore, 1) := by decide +kernel
theorem dX9_add_76 : decode cX9_add 76 = .ok (.return_, 1) := by decide +kernel
theorem dX9_byteAt_0 : decode cX9_byteAt 0 = .ok (.iload_n 1, 1) := by decide +kernel
theorem dX9_byteAt_1 : decode cX9_byteAt 1 = .ok (.ifCond .lt 20, 3) := by decide +kernel
theorem dX9_byteAt_4 : decode cX9_byteAt 4 = .ok (.iload_n 1, 1) := by decide +kernel
theorem dX9_byteAt_5 : decode cX9_byteAt 5 = .ok (.aload_n 0, 1) := by decide +kernel
theorem dX9_byteAt_6 : decode cX9_byteAt 6 = .ok (.getfield 19, 3) := by decide +kernel
theorem dX9_byteAt_9 : decode cX9_byteAt 9 = .ok (.if_icmp .ge 12, 3) := by decide +kernel
theorem dX9_byteAt_12 : decode cX9_byteAt 12 = .ok (.iload_n 1, 1) := by decide +kernel
theorem dX9_byteAt_13 : decode cX9_byteAt 13 = .ok (.aload_n 0, 1) := by decide +kernel
theorem dX9_byteAt_14 : decode cX9_byteAt 14 = .ok (.getfield 9, 3) := by decide +kernel
theorem dX9_byteAt_17 : decode cX9_byteAt 17 = .ok (.arraylength, 1) := by decide +kernel
theorem dX9_byteAt_18 : decode cX9_byteAt 18 = .ok (.if_icmp .lt 7, 3) := by decide +kernel
theorem dX9_byteAt_21 : decode cX9_byteAt 21 = .ok (.iconst (-1), 1) := by decide +kernel
theorem dX9_byteAt_22 : decode cX9_byteAt 22 = .ok (.goto 9, 3) := by decide +kernel
theorem dX9_byteAt_25 : decode cX9_byteAt 25 = .ok (.aload_n 0, 1) := by decide +kernel
theorem dX9_byteAt_26 : decode cX9_byteAt 26 = .ok (.getfield 9, 3) := by decide +kernel
theorem dX9_byteAt_29 : decode cX9_byteAt 29 = .ok (.iload_n 1, 1) := by decide +kernel
theorem dX9_byteAt_30 : decode cX9_byteAt 30 = .ok (.baload, 1) := by decide +kernel
theorem dX9_byteAt_31 : decode cX9_byteAt 31 = .ok (.ireturn, 1) := by decide +kernel
theorem dX9_lengthOf_0 : decode cX9_lengthOf 0 = .ok (.aload_n 0, 1) := by decide +kernel
theorem dX9_lengthOf_1 : decode cX9_lengthOf 1 = .ok (.getfield 15, 3) := by decide +kernel
theorem dX9_lengthOf_4 : decode cX9_lengthOf 4 = .ok (.iload_n 1, 1) := by decide +kernel
theorem dX9_lengthOf_5 : decode cX9_lengthOf 5 = .ok (.invokestatic 33, 3) := by decide +kernel
theorem dX9_lengthOf_8 : decode cX9_lengthOf 8 = .ok (.ireturn, 1) := by decide +kernel
theorem dX9_append_0 : decode cX9_append 0 = .ok (.aload_n 0, 1) := by decide +kernel
theorem dX9_append_1 : decode cX9_append 1 = .ok (.getfield 19, 3) := by decide +kernel
theorem dX9_append_4 : decode cX9_append 4 = .ok (.ifCond .lt 36, 3) := by decide +kernel
theorem dX9_append_7 : decode cX9_append 7 = .ok (.aload_n 0, 1) := by decide +kernel
theorem dX9_append_8 : decode cX9_append 8 = .ok (.getfield 19, 3) := by decide +kernel
theorem dX9_append_11 : decode cX9_append 11 = .ok (.aload_n 0, 1) := by decide +kernel
theorem dX9_append_12 : decode cX9_append 12 = .ok (.getfield 9, 3) := by decide +kernel
theorem dX9_append_15 : decode cX9_append 15 = .ok (.arraylength, 1) := by decide +kernel
theorem dX9_append_16 : decode cX9_append 16 = .ok (.if_icmp .ge 24, 3) := by decide +kernel
theorem dX9_append_19 : decode cX9_append 19 = .ok (.aload_n 0, 1) := by decide +kernel
theorem dX9_append_20 : decode cX9_append 20 = .ok (.getfield 9, 3) := by decide +kernel
theorem dX9_append_23 : decode cX9_append 23 = .ok (.aload_n 0, 1) := by decide +kernel
theorem dX9_append_24 : decode cX9_append 24 = .ok (.getfield 19, 3) := by decide +kernel
theorem dX9_append_27 : decode cX9_append 27 = .ok (.iload_n 1, 1) := by decide +kernel
theorem dX9_append_28 : decode cX9_append 28 = .ok (.i2b, 1) := by decide +kernel
theorem dX9_append_29 : decode cX9_append 29 = .ok (.bastore, 1) := by decide +kernel
theorem dX9_append_30 : decode cX9_append 30 = .ok (.aload_n 0, 1) := by decide +kernel
theorem dX9_append_31 : decode cX9_append 31 = .ok (.dup, 1) := by decide +kernel
theorem dX9_append_32 : decode cX9_append 32 = .ok (.getfield 19, 3) := by decide +kernel
theorem dX9_append_35 : decode cX9_append 35 = .ok (.iconst 1, 1) := by decide +kernel
theorem dX9_append_36 : decode cX9_append 36 = .ok (.iadd, 1) := by decide +kernel
theorem dX9_append_37 : decode cX9_append 37 = .ok (.putfield 19, 3) := by decide +kernel
theorem dX9_append_40 : decode cX9_append 40 = .ok (.return_, 1) := by decide +kernel
theorem dX10_init_0 : decode cX10_init 0 = .ok (.aload_n 0, 1) := by decide +kernel
theorem dX10_init_1 : decode cX10_init 1 = .ok (.invokespecial 3, 3) := by decide +kernel
theorem dX10_init_4 : decode cX10_init 4 = .ok (.aload_n 0, 1) := by decide +kernel
theorem dX10_init_5 : decode cX10_init 5 = .ok (.new 9, 3) := by decide +kernel
theorem dX10_init_8 : decode cX10_init 8 = .ok (.dup, 1) := by decide +kernel
theorem dX10_init_9 : decode cX10_init 9 = .ok (.invokespecial 11, 3) := by decide +kernel
theorem dX10_init_12 : decode cX10_init 12 = .ok (.putfield 12, 3) := by decide +kernel
theorem dX10_init_15 : decode cX10_init 15 = .ok (.aload_n 0, 1) := by decide +kernel
theorem dX10_init_16 : decode cX10_init 16 = .ok (.new 16, 3) := by decide +kernel
theorem dX10_init_19 : decode cX10_init 19 = .ok (.dup, 1) := by decide +kernel
theorem dX10_init_20 : decode cX10_init 20 = .ok (.invokespecial 18, 3) := by decide +kernel
theorem dX10_init_23 : decode cX10_init 23 = .ok (.putfield 19, 3) := by decide +kernel
theorem dX10_init_26 : decode cX10_init 26 = .ok (.aload_n 0, 1) := by decide +kernel
theorem dX10_init_27 : decode cX10_init 27 = .ok (.new 23, 3) := by decide +kernel
theorem dX10_init_30 : decode cX10_init 30 = .ok (.dup, 1) := by decide +kernel
theorem dX10_init_31 : decode cX10_init 31 = .ok (.invokespecial 25, 3) := by decide +kernel
theorem dX10_init_34 : decode cX10_init 34 = .ok (.putfield 26, 3) := by decide +kernel
theorem dX10_init_37 : decode cX10_init 37 = .ok (.aload_n 0, 1) := by decide +kernel
theorem dX10_init_38 : decode cX10_init 38 = .ok (.new 30, 3) := by decide +kernel
theorem dX10_init_41 : decode cX10_init 41 = .ok (.dup, 1) := by decide +kernel
theorem dX10_init_42 : decode cX10_init 42 = .ok (.invokespecial 32, 3) := by decide +kernel
theorem dX10_init_45 : decode cX10_init 45 = .ok (.putfield 33, 3) := by decide +kernel
theorem dX10_init_48 : decode cX10_init 48 = .ok (.aload_n 0, 1) := by decide +kernel
theorem dX10_init_49 : decode cX10_init 49 = .ok (.new 30, 3) := by decide +kernel
theorem dX10_init_52 : decode cX10_init 52 = .ok (.dup, 1) := by decide +kernel
theorem dX10_init_53 : decode cX10_init 53 = .ok (.invokespecial 32, 3) := by decide +kernel
theorem dX10_init_56 : decode cX10_init 56 = .ok (.putfield 37, 3) := by decide +kernel
theorem dX10_init_59 : decode cX10_init 59 = .ok (.return_, 1) := by decide +kernel
theorem dX10_type_0 : decode cX10_type 0 = .ok (.iload_n 1, 1) := by decide +kernel
theorem dX10_type_1 : decode cX10_type 1 = .ok (.ifCond .lt 9, 3) := by decide +kernel
theorem dX10_type_4 : decode cX10_type 4 = .ok (.iload_n 1, 1) := by decide +kernel
theorem dX10_type_5 : decode cX10_type 5 = .ok (.bipush 127, 2) := by decide +kernel
theorem dX10_type_7 : decode cX10_type 7 = .ok (.if_icmp .le 6, 3) := by decide +kernel
theorem dX10_type_10 : decode cX10_type 10 = .ok (.bipush (-2), 2) := by decide +kernel
theorem dX10_type_12 : decode cX10_type 12 = .ok (.ireturn, 1) := by decide +kernel
theorem dX10_type_13 : decode cX10_type 13 = .ok (.aload_n 0, 1) := by decide +kernel
theorem dX10_type_14 : decode cX10_type 14 = .ok (.getfield 12, 3) := by decide +kernel
theorem dX10_type_17 : decode cX10_type 17 = .ok (.getfield 40, 3) := by decide +kernel
theorem dX10_type_20 : decode cX10_type 20 = .ok (.bipush 80, 2) := by decide +kernel
theorem dX10_type_22 : decode cX10_type 22 = .ok (.if_icmp .lt 6, 3) := by decide +kernel
theorem dX10_type_25 : decode cX10_type 25 = .ok (.bipush (-4), 2) := by decide +kernel
theorem dX10_type_27 : decode cX10_type 27 = .ok (.ireturn, 1) := by decide +kernel
theorem dX10_type_28 : decode cX10_type 28 = .ok (.aload_n 0, 1) := by decide +kernel
theorem dX10_type_29 : decode cX10_type 29 = .ok (.getfield 12, 3) := by decide +kernel
theorem dX10_type_32 : decode cX10_type 32 = .ok (.iload_n 1, 1) := by decide +kernel
theorem dX10_type_33 : decode cX10_type 33 = .ok (.invokevirtual 44, 3) := by decide +kernel
theorem dX10_type_36 : decode cX10_type 36 = .ok (.aload_n 0, 1) := by decide +kernel
theorem dX10_type_37 : decode cX10_type 37 = .ok (.getfield 12, 3) := by decide +kernel
theorem dX10_type_40 : decode cX10_type 40 = .ok (.getfield 40, 3) := by decide +kernel
theorem dX10_type_43 : decode cX10_type 43 = .ok (.ireturn, 1) := by decide +kernel
theorem dX10_clear_0 : decode cX10_clear 0 = .ok (.aload_n 0, 1) := by decide +kernel
theorem dX10_clear_1 : decode cX10_clear 1 = .ok (.getfield 12, 3) := by decide +kernel
theorem dX10_clear_4 : decode cX10_clear 4 = .ok (.getfield 40, 3) := by decide +kernel
theorem dX10_clear_7 : decode cX10_clear 7 = .ok (.istore_n 1, 1) := by decide +kernel
theorem dX10_clear_8 : decode cX10_clear 8 = .ok (.aload_n 0, 1) := by decide +kernel
theorem dX10_clear_9 : decode cX10_clear 9 = .ok (.getfield 12, 3) := by decide +kernel
theorem dX10_clear_12 : decode cX10_clear 12 = .ok (.iconst 0, 1) := by decide +kernel
theorem dX10_clear_13 : decode cX10_clear 13 = .ok (.putfield 40, 3) := by decide +kernel
theorem dX10_clear_16 : decode cX10_clear 16 = .ok (.iload_n 1, 1) := by decide +kernel
theorem dX10_clear_17 : decode cX10_clear 17 = .ok (.ireturn, 1) := by decide +kernel
theorem dX10_fault_0 : decode cX10_fault 0 = .ok (.iload_n 1, 1) := by decide +kernel
theorem dX10_fault_1 : decode cX10_fault 1 = .ok (.ifCond .eq 13, 3) := by decide +kernel
theorem dX10_fault_4 : decode cX10_fault 4 = .ok (.aload_n 0, 1) := by decide +kernel
theorem dX10_fault_5 : decode cX10_fault 5 = .ok (.getfield 12, 3) := by decide +kernel
theorem dX10_fault_8 : decode cX10_fault 8 = .ok (.invokevirtual 48, 3) := by decide +kernel
theorem dX10_fault_11 : decode cX10_fault 11 = .ok (.goto 10, 3) := by decide +kernel
theorem dX10_fault_14 : decode cX10_fault 14 = .ok (.aload_n 0, 1) := by decide +kernel
theorem dX10_fault_15 : decode cX10_fault 15 = .ok (.getfield 12, 3) := by decide +kernel
theorem dX10_fault_18 : decode cX10_fault 18 = .ok (.invokevirtual 52, 3) := by decide +kernel
theorem dX10_fault_21 : decode cX10_fault 21 = .ok (.ireturn, 1) := by decide +kernel
theorem dX10_insert_0 : decode cX10_insert 0 = .ok (.iload_n 1, 1) := by decide +kernel
theorem dX10_insert_1 : decode cX10_insert 1 = .ok (.ifCond .lt 14, 3) := by decide +kernel
theorem dX10_insert_4 : decode cX10_insert 4 = .ok (.iload_n 1, 1) := by decide +kernel
theorem dX10_insert_5 : decode cX10_insert 5 = .ok (.aload_n 0, 1) := by decide +kernel
theorem dX10_insert_6 : decode cX10_insert 6 = .ok (.getfield 19, 3) := by decide +kernel
theorem dX10_insert_9 : decode cX10_insert 9 = .ok (.getfield 55, 3) := by decide +kernel
theorem dX10_insert_12 : decode cX10_insert 12 = .ok (.if_icmp .le 6, 3) := by decide +kernel
theorem dX10_insert_15 : decode cX10_insert 15 = .ok (.bipush (-2), 2) := by decide +kernel
theorem dX10_insert_17 : decode cX10_insert 17 = .ok (.ireturn, 1) := by decide +kernel
theorem dX10_insert_18 : decode cX10_insert 18 = .ok (.aload_n 0, 1) := by decide +kernel
theorem dX10_insert_19 : decode cX10_insert 19 = .ok (.getfield 12, 3) := by decide +kernel
theorem dX10_insert_22 : decode cX10_insert 22 = .ok (.invokevirtual 52, 3) := by decide +kernel
theorem dX10_insert_25 : decode cX10_insert 25 = .ok (.istore_n 2, 1) := by decide +kernel
theorem dX10_insert_26 : decode cX10_insert 26 = .ok (.iload_n 2, 1) := by decide +kernel
theorem dX10_insert_27 : decode cX10_insert 27 = .ok (.iconst (-1), 1) := by decide +kernel
theorem dX10_insert_28 : decode cX10_insert 28 = .ok (.if_icmp .eq 9, 3) := by decide +kernel
theorem dX10_insert_31 : decode cX10_insert 31 = .ok (.sipush (-2000), 3) := by decide +kernel
theorem dX10_insert_34 : decode cX10_insert 34 = .ok (.iload_n 2, 1) := by decide +kernel
theorem dX10_insert_35 : decode cX10_insert 35 = .ok (.isub, 1) := by decide +kernel
theorem dX10_insert_36 : decode cX10_insert 36 = .ok (.ireturn, 1) := by decide +kernel
theorem dX10_insert_37 : decode cX10_insert 37 = .ok (.aload_n 0, 1) := by decide +kernel
theorem dX10_insert_38 : decode cX10_insert 38 = .ok (.getfield 19, 3) := by decide +kernel
theorem dX10_insert_41 : decode cX10_insert 41 = .ok (.getfield 55, 3) := by decide +kernel
theorem dX10_insert_44 : decode cX10_insert 44 = .ok (.bipush 24, 2) := by decide +kernel
theorem dX10_insert_46 : decode cX10_insert 46 = .ok (.if_icmp .lt 6, 3) := by decide +kernel
theorem dX10_insert_49 : decode cX10_insert 49 = .ok (.bipush (-4), 2) := by decide +kernel
theorem dX10_insert_51 : decode cX10_insert 51 = .ok (.ireturn, 1) := by decide +kernel
theorem dX10_insert_52 : decode cX10_insert 52 = .ok (.aload_n 0, 1) := by decide +kernel
theorem dX10_insert_53 : decode cX10_insert 53 = .ok (.getfield 26, 3) := by decide +kernel
theorem dX10_insert_56 : decode cX10_insert 56 = .ok (.aload_n 0, 1) := by decide +kernel
theorem dX10_insert_57 : decode cX10_insert 57 = .ok (.getfield 19, 3) := by decide +kernel
theorem dX10_insert_60 : decode cX10_insert 60 = .ok (.invokevirtual 58, 3) := by decide +kernel
theorem dX10_insert_63 : decode cX10_insert 63 = .ok (.aload_n 0, 1) := by decide +kernel
theorem dX10_insert_64 : decode cX10_insert 64 = .ok (.getfield 19, 3) := by decide +kernel
theorem dX10_insert_67 : decode cX10_insert 67 = .ok (.iload_n 1, 1) := by decide +kernel
theorem dX10_insert_68 : decode cX10_insert 68 = .ok (.aload_n 0, 1) := by decide +kernel
theorem dX10_insert_69 : decode cX10_insert 69 = .ok (.getfield 12, 3) := by decide +kernel
theorem dX10_insert_72 : decode cX10_insert 72 = .ok (.invokevirtual 62, 3) := by decide +kernel
theorem dX10_insert_75 : decode cX10_insert 75 = .ok (.invokevirtual 66, 3) := by decide +kernel
theorem dX10_insert_78 : decode cX10_insert 78 = .ok (.aload_n 0, 1) := by decide +kernel
theorem dX10_insert_79 : decode cX10_insert 79 = .ok (.invokevirtual 70, 3) := by decide +kernel
theorem dX10_insert_82 : decode cX10_insert 82 = .ok (.aload_n 0, 1) := by decide +kernel
theorem dX10_insert_83 : decode cX10_insert 83 = .ok (.getfield 19, 3) := by decide +kernel
theorem dX10_insert_86 : decode cX10_insert 86 = .ok (.getfield 55, 3) := by decide +kernel
theorem dX10_insert_89 : decode cX10_insert 89 = .ok (.ireturn, 1) := by decide +kernel
theorem dX10_replace_0 : decode cX10_replace 0 = .ok (.aload_n 0, 1) := by decide +kernel
theorem dX10_replace_1 : decode cX10_replace 1 = .ok (.getfield 19, 3) := by decide +kernel
theorem dX10_replace_4 : decode cX10_replace 4 = .ok (.iload_n 1, 1) := by decide +kernel
theorem dX10_replace_5 : decode cX10_replace 5 = .ok (.invokevirtual 73, 3) := by decide +kernel
theorem dX10_replace_8 : decode cX10_replace 8 = .ok (.astore_n 2, 1) := by decide +kernel
theorem dX10_replace_9 : decode cX10_replace 9 = .ok (.aload_n 2, 1) := by decide +kernel
theorem dX10_replace_10 : decode cX10_replace 10 = .ok (.ifnonnull 6, 3) := by decide +kernel
theorem dX10_replace_13 : decode cX10_replace 13 = .ok (.bipush (-2), 2) := by decide +kernel
theorem dX10_replace_15 : decode cX10_replace 15 = .ok (.ireturn, 1) := by decide +kernel
theorem dX10_replace_16 : decode cX10_replace 16 = .ok (.aload_n 0, 1) := by decide +kernel
theorem dX10_replace_17 : decode cX10_replace 17 = .ok (.getfield 12, 3) := by decide +kernel
theorem dX10_replace_20 : decode cX10_replace 20 = .ok (.invokevirtual 52, 3) := by decide +kernel
theorem dX10_replace_23 : decode cX10_replace 23 = .ok (.istore_n 3, 1) := by decide +kernel
theorem dX10_replace_24 : decode cX10_replace 24 = .ok (.iload_n 3, 1) := by decide +kernel
theorem dX10_replace_25 : decode cX10_replace 25 = .ok (.iconst (-1), 1) := by decide +kernel
theorem dX10_replace_26 : decode cX10_replace 26 = .ok (.if_icmp .eq 9, 3) := by decide +kernel
theorem dX10_replace_29 : decode cX10_replace 29 = .ok (.sipush (-2000), 3) := by decide +kernel
theorem dX10_replace_32 : decode cX10_replace 32 = .ok (.iload_n 3, 1) := by decide +kernel
theorem dX10_replace_33 : decode cX10_replace 33 = .ok (.isub, 1) := by decide +kernel
theorem dX10_replace_34 : decode cX10_replace 34 = .ok (.ireturn, 1) := by decide +kernel
theorem dX10_replace_35 : decode cX10_replace 35 = .ok (.aload_n 0, 1) := by decide +kernel
theorem dX10_replace_36 : decode cX10_replace 36 = .ok (.getfield 26, 3) := by decide +kernel
theorem dX10_replace_39 : decode cX10_replace 39 = .ok (.aload_n 0, 1) := by decide +kernel
theorem dX10_replace_40 : decode cX10_replace 40 = .ok (.getfield 19, 3) := by decide +kernel
theorem dX10_replace_43 : decode cX10_replace 43 = .ok (.invokevirtual 58, 3) := by decide +kernel
theorem dX10_replace_46 : decode cX10_replace 46 = .ok (.aload_n 0, 1) := by decide +kernel
theorem dX10_replace_47 : decode cX10_replace 47 = .ok (.getfield 19, 3) := by decide +kernel
theorem dX10_replace_50 : decode cX10_replace 50 = .ok (.iload_n 1, 1) := by decide +kernel
theorem dX10_replace_51 : decode cX10_replace 51 = .ok (.aload_n 0, 1) := by decide +kernel
theorem dX10_replace_52 : decode cX10_replace 52 = .ok (.getfield 12, 3) := by decide +kernel
theorem dX10_replace_55 : decode cX10_replace 55 = .ok (.invokevirtual 62, 3) := by decide +kernel
theorem dX10_replace_58 : decode cX10_replace 58 = .ok (.invokevirtual 77, 3) := by decide +kernel
theorem dX10_replace_61 : decode cX10_replace 61 = .ok (.aload_n 0, 1) := by decide +kernel
theorem dX10_replace_62 : decode cX10_replace 62 = .ok (.invokevirtual 70, 3) := by decide +kernel
theorem dX10_replace_65 : decode cX10_replace 65 = .ok (.aload_n 2, 1) := by decide +kernel
theorem dX10_replace_66 : decode cX10_replace 66 = .ok (.getfield 80, 3) := by decide +kernel
theorem dX10_replace_69 : decode cX10_replace 69 = .ok (.getfield 86, 3) := by decide +kernel
theorem dX10_replace_72 : decode cX10_replace 72 = .ok (.ireturn, 1) := by decide +kernel
theorem dX10_remove_0 : decode cX10_remove 0 = .ok (.aload_n 0, 1) := by decide +kernel
theorem dX10_remove_1 : decode cX10_remove 1 = .ok (.getfield 19, 3) := by decide +kernel
theorem dX10_remove_4 : decode cX10_remove 4 = .ok (.iload_n 1, 1) := by decide +kernel
theorem dX10_remove_5 : decode cX10_remove 5 = .ok (.invokevirtual 73, 3) := by decide +kernel
theorem dX10_remove_8 : decode cX10_remove 8 = .ok (.ifnonnull 6, 3) := by decide +kernel
theorem dX10_remove_11 : decode cX10_remove 11 = .ok (.bipush (-2), 2) := by decide +kernel
theorem dX10_remove_13 : decode cX10_remove 13 = .ok (.ireturn, 1) := by decide +kernel
theorem dX10_remove_14 : decode cX10_remove 14 = .ok (.aload_n 0, 1) := by decide +kernel
theorem dX10_remove_15 : decode cX10_remove 15 = .ok (.getfield 26, 3) := by decide +kernel
theorem dX10_remove_18 : decode cX10_remove 18 = .ok (.aload_n 0, 1) := by decide +kernel
theorem dX10_remove_19 : decode cX10_remove 19 = .ok (.getfield 19, 3) := by decide +kernel
theorem dX10_remove_22 : decode cX10_remove 22 = .ok (.invokevirtual 58, 3) := by decide +kernel
theorem dX10_remove_25 : decode cX10_remove 25 = .ok (.aload_n 0, 1) := by decide +kernel
theorem dX10_remove_26 : decode cX10_remove 26 = .ok (.getfield 19, 3) := by decide +kernel
theorem dX10_remove_29 : decode cX10_remove 29 = .ok (.iload_n 1, 1) := by decide +kernel
theorem dX10_remove_30 : decode cX10_remove 30 = .ok (.invokevirtual 89, 3) := by decide +kernel
theorem dX10_remove_33 : decode cX10_remove 33 = .ok (.aload_n 0, 1) := by decide +kernel
theorem dX10_remove_34 : decode cX10_remove 34 = .ok (.invokevirtual 70, 3) := by decide +kernel
theorem dX10_remove_37 : decode cX10_remove 37 = .ok (.aload_n 0, 1) := by decide +kernel
theorem dX10_remove_38 : decode cX10_remove 38 = .ok (.getfield 19, 3) := by decide +kernel
theorem dX10_remove_41 : decode cX10_remove 41 = .ok (.getfield 55, 3) := by decide +kernel
theorem dX10_remove_44 : decode cX10_remove 44 = .ok (.ireturn, 1) := by decide +kernel
theorem dX10_move_0 : decode cX10_move 0 = .ok (.iload_n 2, 1) := by decide +kernel
theorem dX10_move_1 : decode cX10_move 1 = .ok (.iconst 1, 1) := by decide +kernel
theorem dX10_move_2 : decode cX10_move 2 = .ok (.if_icmp .lt 14, 3) := by decide +kernel
theorem dX10_move_5 : decode cX10_move 5 = .ok (.iload_n 2, 1) := by decide +kernel
theorem dX10_move_6 : decode cX10_move 6 = .ok (.aload_n 0, 1) := by decide +kernel
theorem dX10_move_7 : decode cX10_move 7 = .ok (.getfield 19, 3) := by decide +kernel
theorem dX10_move_10 : decode cX10_move 10 = .ok (.getfield 55, 3) := by decide +kernel
theorem dX10_move_13 : decode cX10_move 13 = .ok (.if_icmp .le 6, 3) := by decide +kernel
theorem dX10_move_16 : decode cX10_move 16 = .ok (.bipush (-2), 2) := by decide +kernel
theorem dX10_move_18 : decode cX10_move 18 = .ok (.ireturn, 1) := by decide +kernel
theorem dX10_move_19 : decode cX10_move 19 = .ok (.aload_n 0, 1) := by decide +kernel
theorem dX10_move_20 : decode cX10_move 20 = .ok (.getfield 19, 3) := by decide +kernel
theorem dX10_move_23 : decode cX10_move 23 = .ok (.getfield 55, 3) := by decide +kernel
theorem dX10_move_26 : decode cX10_move 26 = .ok (.iload_n 2, 1) := by decide +kernel
theorem dX10_move_27 : decode cX10_move 27 = .ok (.isub, 1) := by decide +kernel
theorem dX10_move_28 : decode cX10_move 28 = .ok (.istore 4, 2) := by decide +kernel
theorem dX10_move_30 : decode cX10_move 30 = .ok (.iload_n 1, 1) := by decide +kernel
theorem dX10_move_31 : decode cX10_move 31 = .ok (.ifCond .lt 19, 3) := by decide +kernel
theorem dX10_move_34 : decode cX10_move 34 = .ok (.iload_n 1, 1) := by decide +kernel
theorem dX10_move_35 : decode cX10_move 35 = .ok (.iload 4, 2) := by decide +kernel
theorem dX10_move_37 : decode cX10_move 37 = .ok (.if_icmp .gt 13, 3) := by decide +kernel
theorem dX10_move_40 : decode cX10_move 40 = .ok (.iload_n 3, 1) := by decide +kernel
theorem dX10_move_41 : decode cX10_move 41 = .ok (.ifCond .lt 9, 3) := by decide +kernel
theorem dX10_move_44 : decode cX10_move 44 = .ok (.iload_n 3, 1) := by decide +kernel
theorem dX10_move_45 : decode cX10_move 45 = .ok (.iload 4, 2) := by decide +kernel
theorem dX10_move_47 : decode cX10_move 47 = .ok (.if_icmp .le 6, 3) := by decide +kernel
theorem dX10_move_50 : decode cX10_move 50 = .ok (.bipush (-2), 2) := by decide +kernel
theorem dX10_move_52 : decode cX10_move 52 = .ok (.ireturn, 1) := by decide +kernel
theorem dX10_move_53 : decode cX10_move 53 = .ok (.aload_n 0, 1) := by decide +kernel
theorem dX10_move_54 : decode cX10_move 54 = .ok (.getfield 26, 3) := by decide +kernel
theorem dX10_move_57 : decode cX10_move 57 = .ok (.aload_n 0, 1) := by decide +kernel
theorem dX10_move_58 : decode cX10_move 58 = .ok (.getfield 19, 3) := by decide +kernel
theorem dX10_move_61 : decode cX10_move 61 = .ok (.invokevirtual 58, 3) := by decide +kernel
theorem dX10_move_64 : decode cX10_move 64 = .ok (.aload_n 0, 1) := by decide +kernel
theorem dX10_move_65 : decode cX10_move 65 = .ok (.getfield 19, 3) := by decide +kernel
theorem dX10_move_68 : decode cX10_move 68 = .ok (.iload_n 1, 1) := by decide +kernel
theorem dX10_move_69 : decode cX10_move 69 = .ok (.iload_n 2, 1) := by decide +kernel
theorem dX10_move_70 : decode cX10_move 70 = .ok (.iload_n 3, 1) := by decide +kernel
theorem dX10_move_71 : decode cX10_move 71 = .ok (.invokevirtual 92, 3) := by decide +kernel
theorem dX10_move_74 : decode cX10_move 74 = .ok (.aload_n 0, 1) := by decide +kernel
theorem dX10_move_75 : decode cX10_move 75 = .ok (.invokevirtual 70, 3) := by decide +kernel
theorem dX10_move_78 : decode cX10_move 78 = .ok (.aload_n 0, 1) := by decide +kernel
theorem dX10_move_79 : decode cX10_move 79 = .ok (.getfield 33, 3) := by decide +kernel
theorem dX10_move_82 : decode cX10_move 82 = .ok (.getfield 96, 3) := by decide +kernel
theorem dX10_move_85 : decode cX10_move 85 = .ok (.ireturn, 1) := by decide +kernel
theorem dX10_toggle_0 : decode cX10_toggle 0 = .ok (.aload_n 0, 1) := by decide +kernel
theorem dX10_toggle_1 : decode cX10_toggle 1 = .ok (.getfield 19, 3) := by decide +kernel
theorem dX10_toggle_4 : decode cX10_toggle 4 = .ok (.iload_n 1, 1) := by decide +kernel
theorem dX10_toggle_5 : decode cX10_toggle 5 = .ok (.invokevirtual 73, 3) := by decide +kernel
theorem dX10_toggle_8 : decode cX10_toggle 8 = .ok (.astore_n 3, 1) := by decide +kernel
theorem dX10_toggle_9 : decode cX10_toggle 9 = .ok (.aload_n 3, 1) := by decide +kernel
theorem dX10_toggle_10 : decode cX10_toggle 10 = .ok (.ifnonnull 6, 3) := by decide +kernel
theorem dX10_toggle_13 : decode cX10_toggle 13 = .ok (.bipush (-2), 2) := by decide +kernel
theorem dX10_toggle_15 : decode cX10_toggle 15 = .ok (.ireturn, 1) := by decide +kernel
theorem dX10_toggle_16 : decode cX10_toggle 16 = .ok (.aload_n 0, 1) := by decide +kernel
theorem dX10_toggle_17 : decode cX10_toggle 17 = .ok (.getfield 26, 3) := by decide +kernel
theorem dX10_toggle_20 : decode cX10_toggle 20 = .ok (.aload_n 0, 1) := by decide +kernel
theorem dX10_toggle_21 : decode cX10_toggle 21 = .ok (.getfield 19, 3) := by decide +kernel
theorem dX10_toggle_24 : decode cX10_toggle 24 = .ok (.invokevirtual 58, 3) := by decide +kernel
theorem dX10_toggle_27 : decode cX10_toggle 27 = .ok (.iload_n 2, 1) := by decide +kernel
theorem dX10_toggle_28 : decode cX10_toggle 28 = .ok (.ifCond .eq 18, 3) := by decide +kernel
theorem dX10_toggle_31 : decode cX10_toggle 31 = .ok (.aload_n 3, 1) := by decide +kernel
theorem dX10_toggle_32 : decode cX10_toggle 32 = .ok (.getfield 99, 3) := by decide +kernel
theorem dX10_toggle_35 : decode cX10_toggle 35 = .ok (.ifCond .ne 7, 3) := by decide +kernel
theorem dX10_toggle_38 : decode cX10_toggle 38 = .ok (.iconst 1, 1) := by decide +kernel
theorem dX10_toggle_39 : decode cX10_toggle 39 = .ok (.goto 11, 3) := by decide +kernel
theorem dX10_toggle_42 : decode cX10_toggle 42 = .ok (.iconst 0, 1) := by decide +kernel
theorem dX10_toggle_43 : decode cX10_toggle 43 = .ok (.goto 7, 3) := by decide +kernel
theorem dX10_toggle_46 : decode cX10_toggle 46 = .ok (.aload_n 3, 1) := by decide +kernel
theorem dX10_toggle_47 : decode cX10_toggle 47 = .ok (.getfield 99, 3) := by decide +kernel
theorem dX10_toggle_50 : decode cX10_toggle 50 = .ok (.istore 4, 2) := by decide +kernel
theorem dX10_toggle_52 : decode cX10_toggle 52 = .ok (.iload_n 2, 1) := by decide +kernel
theorem dX10_toggle_53 : decode cX10_toggle 53 = .ok (.ifCond .eq 10, 3) := by decide +kernel
theorem dX10_toggle_56 : decode cX10_toggle 56 = .ok (.aload_n 3, 1) := by decide +kernel
theorem dX10_toggle_57 : decode cX10_toggle 57 = .ok (.getfield 103, 3) := by decide +kernel
theorem dX10_toggle_60 : decode cX10_toggle 60 = .ok (.goto 15, 3) := by decide +kernel
theorem dX10_toggle_63 : decode cX10_toggle 63 = .ok (.aload_n 3, 1) := by decide +kernel
theorem dX10_toggle_64 : decode cX10_toggle 64 = .ok (.getfield 103, 3) := by decide +kernel
theorem dX10_toggle_67 : decode cX10_toggle 67 = .ok (.ifCond .ne 7, 3) := by decide +kernel
theorem dX10_toggle_70 : decode cX10_toggle 70 = .ok (.iconst 1, 1) := by decide +kernel
theorem dX10_toggle_71 : decode cX10_toggle 71 = .ok (.goto 4, 3) := by decide +kernel
theorem dX10_toggle_74 : decode cX10_toggle 74 = .ok (.iconst 0, 1) := by decide +kernel
theorem dX10_toggle_75 : decode cX10_toggle 75 = .ok (.istore 5, 2) := by decide +kernel
theorem dX10_toggle_77 : decode cX10_toggle 77 = .ok (.aload_n 0, 1) := by decide +kernel
theorem dX10_toggle_78 : decode cX10_toggle 78 = .ok (.getfield 19, 3) := by decide +kernel
theorem dX10_toggle_81 : decode cX10_toggle 81 = .ok (.iload_n 1, 1) := by decide +kernel
theorem dX10_toggle_82 : decode cX10_toggle 82 = .ok (.new 81, 3) := by decide +kernel
theorem dX10_toggle_85 : decode cX10_toggle 85 = .ok (.dup, 1) := by decide +kernel
theorem dX10_toggle_86 : decode cX10_toggle 86 = .ok (.aload_n 3, 1) := by decide +kernel
theorem dX10_toggle_87 : decode cX10_toggle 87 = .ok (.getfield 80, 3) := by decide +kernel
theorem dX10_toggle_90 : decode cX10_toggle 90 = .ok (.aload_n 3, 1) := by decide +kernel
theorem dX10_toggle_91 : decode cX10_toggle 91 = .ok (.getfield 106, 3) := by decide +kernel
theorem dX10_toggle_94 : decode cX10_toggle 94 = .ok (.iload 4, 2) := by decide +kernel
theorem dX10_toggle_96 : decode cX10_toggle 96 = .ok (.iload 5, 2) := by decide +kernel
theorem dX10_toggle_98 : decode cX10_toggle 98 = .ok (.invokespecial 109, 3) := by decide +kernel
theorem dX10_toggle_101 : decode cX10_toggle 101 = .ok (.invokevirtual 77, 3) := by decide +kernel
theorem dX10_toggle_104 : decode cX10_toggle 104 = .ok (.aload_n 0, 1) := by decide +kernel
theorem dX10_toggle_105 : decode cX10_toggle 105 = .ok (.invokevirtual 70, 3) := by decide +kernel
theorem dX10_toggle_108 : decode cX10_toggle 108 = .ok (.iload_n 2, 1) := by decide +kernel
theorem dX10_toggle_109 : decode cX10_toggle 109 = .ok (.ifCond .eq 8, 3) := by decide +kernel
theorem dX10_toggle_112 : decode cX10_toggle 112 = .ok (.iload 4, 2) := by decide +kernel
theorem dX10_toggle_114 : decode cX10_toggle 114 = .ok (.goto 5, 3) := by decide +kernel
theorem dX10_toggle_117 : decode cX10_toggle 117 = .ok (.iload 5, 2) := by decide +kernel
theorem dX10_toggle_119 : decode cX10_toggle 119 = .ok (.invokestatic 112, 3) := by decide +kernel
theorem dX10_toggle_122 : decode cX10_toggle 122 = .ok (.ireturn, 1) := by decide +kernel
theorem dX10_line_0 : decode cX10_line 0 = .ok (.aload_n 0, 1) := by decide +kernel
theorem dX10_line_1 : decode cX10_line 1 = .ok (.getfield 19, 3) := by decide +kernel
theorem dX10_line_4 : decode cX10_line 4 = .ok (.iload_n 1, 1) := by decide +kernel
theorem dX10_line_5 : decode cX10_line 5 = .ok (.invokevirtual 73, 3) := by decide +kernel
theorem dX10_line_8 : decode cX10_line 8 = .ok (.astore_n 3, 1) := by decide +kernel
theorem dX10_line_9 : decode cX10_line 9 = .ok (.aload_n 0, 1) := by decide +kernel
theorem dX10_line_10 : decode cX10_line 10 = .ok (.getfield 33, 3) := by decide +kernel
theorem dX10_line_13 : decode cX10_line 13 = .ok (.iload_n 1, 1) := by decide +kernel
theorem dX10_line_14 : decode cX10_line 14 = .ok (.invokevirtual 116, 3) := by decide +kernel
theorem dX10_line_17 : decode cX10_line 17 = .ok (.astore 4, 2) := by decide +kernel
theorem dX10_line_19 : decode cX10_line 19 = .ok (.aload_n 3, 1) := by decide +kernel
theorem dX10_line_20 : decode cX10_line 20 = .ok (.ifnull 8, 3) := by decide +kernel
theorem dX10_line_23 : decode cX10_line 23 = .ok (.aload 4, 2) := by decide +kernel
theorem dX10_line_25 : decode cX10_line 25 = .ok (.ifnonnull 6, 3) := by decide +kernel
theorem dX10_line_28 : decode cX10_line 28 = .ok (.bipush (-2), 2) := by decide +kernel
theorem dX10_line_30 : decode cX10_line 30 = .ok (.ireturn, 1) := by decide +kernel
theorem dX10_line_31 : decode cX10_line 31 = .ok (.iload_n 2, 1) := by decide +kernel
theorem dX10_line_32 : decode cX10_line 32 = .ok (.tableswitch 126 0 9 #[56, 64, 72, 77, 85, 94, 102, 108, 114, 120], 56) := by decide +kernel
theorem dX10_line_88 : decode cX10_line 88 = .ok (.aload_n 3, 1) := by decide +kernel
theorem dX10_line_89 : decode cX10_line 89 = .ok (.getfield 80, 3) := by decide +kernel
theorem dX10_line_92 : decode cX10_line 92 = .ok (.getfield 120, 3) := by decide +kernel
theorem dX10_line_95 : decode cX10_line 95 = .ok (.ireturn, 1) := by decide +kernel
theorem dX10_line_96 : decode cX10_line 96 = .ok (.aload_n 3, 1) := by decide +kernel
theorem dX10_line_97 : decode cX10_line 97 = .ok (.getfield 80, 3) := by decide +kernel
theorem dX10_line_100 : decode cX10_line 100 = .ok (.getfield 86, 3) := by decide +kernel
theorem dX10_line_103 : decode cX10_line 103 = .ok (.ireturn, 1) := by decide +kernel
theorem dX10_line_104 : decode cX10_line 104 = .ok (.aload_n 3, 1) := by decide +kernel
theorem dX10_line_105 : decode cX10_line 105 = .ok (.getfield 106, 3) := by decide +kernel
theorem dX10_line_108 : decode cX10_line 108 = .ok (.ireturn, 1) := by decide +kernel
theorem dX10_line_109 : decode cX10_line 109 = .ok (.aload_n 3, 1) := by decide +kernel
theorem dX10_line_110 : decode cX10_line 110 = .ok (.getfield 99, 3) := by decide +kernel
theorem dX10_line_113 : decode cX10_line 113 = .ok (.invokestatic 112, 3) := by decide +kernel
theorem dX10_line_116 : decode cX10_line 116 = .ok (.ireturn, 1) := by decide +kernel
theorem dX10_line_117 : decode cX10_line 117 = .ok (.aload 4, 2) := by decide +kernel
theorem dX10_line_119 : decode cX10_line 119 = .ok (.getfield 123, 3) := by decide +kernel
theorem dX10_line_122 : decode cX10_line 122 = .ok (.invokestatic 112, 3) := by decide +kernel
theorem dX10_line_125 : decode cX10_line 125 = .ok (.ireturn, 1) := by decide +kernel
theorem dX10_line_126 : decode cX10_line 126 = .ok (.aload_n 3, 1) := by decide +kernel
theorem dX10_line_127 : decode cX10_line 127 = .ok (.getfield 103, 3) := by decide +kernel
theorem dX10_line_130 : decode cX10_line 130 = .ok (.invokestatic 112, 3) := by decide +kernel
theorem dX10_line_133 : decode cX10_line 133 = .ok (.ireturn, 1) := by decide +kernel
theorem dX10_line_134 : decode cX10_line 134 = .ok (.aload 4, 2) := by decide +kernel
theorem dX10_line_136 : decode cX10_line 136 = .ok (.getfield 128, 3) := by decide +kernel
theorem dX10_line_139 : decode cX10_line 139 = .ok (.ireturn, 1) := by decide +kernel
theorem dX10_line_140 : decode cX10_line 140 = .ok (.aload 4, 2) := by decide +kernel
theorem dX10_line_142 : decode cX10_line 142 = .ok (.getfield 131, 3) := by decide +kernel
theorem dX10_line_145 : decode cX10_line 145 = .ok (.ireturn, 1) := by decide +kernel
theorem dX10_line_146 : decode cX10_line 146 = .ok (.aload 4, 2) := by decide +kernel
theorem dX10_line_148 : decode cX10_line 148 = .ok (.getfield 134, 3) := by decide +kernel
theorem dX10_line_151 : decode cX10_line 151 = .ok (.ireturn, 1) := by decide +kernel
theorem dX10_line_152 : decode cX10_line 152 = .ok (.aload 4, 2) := by decide +kernel
theorem dX10_line_154 : decode cX10_line 154 = .ok (.getfield 137, 3) := by decide +kernel
theorem dX10_line_157 : decode cX10_line 157 = .ok (.ireturn, 1) := by decide +kernel
theorem dX10_line_158 : decode cX10_line 158 = .ok (.bipush (-2), 2) := by decide +kernel
theorem dX10_line_160 : decode cX10_line 160 = .ok (.ireturn, 1) := by decide +kernel
theorem dX10_letter_0 : decode cX10_letter 0 = .ok (.aload_n 0, 1) := by decide +kernel
theorem dX10_letter_1 : decode cX10_letter 1 = .ok (.getfield 19, 3) := by decide +kernel
theorem dX10_letter_4 : decode cX10_letter 4 = .ok (.iload_n 1, 1) := by decide +kernel
theorem dX10_letter_5 : decode cX10_letter 5 = .ok (.invokevirtual 73, 3) := by decide +kernel
theorem dX10_letter_8 : decode cX10_letter 8 = .ok (.astore_n 3, 1) := by decide +kernel
theorem dX10_letter_9 : decode cX10_letter 9 = .ok (.aload_n 3, 1) := by decide +kernel
theorem dX10_letter_10 : decode cX10_letter 10 = .ok (.ifnull 7, 3) := by decide +kernel
theorem dX10_letter_13 : decode cX10_letter 13 = .ok (.iload_n 2, 1) := by decide +kernel
theorem dX10_letter_14 : decode cX10_letter 14 = .ok (.ifCond .ge 6, 3) := by decide +kernel
theorem dX10_letter_17 : decode cX10_letter 17 = .ok (.bipush (-2), 2) := by decide +kernel
theorem dX10_letter_19 : decode cX10_letter 19 = .ok (.ireturn, 1) := by decide +kernel
theorem dX10_letter_20 : decode cX10_letter 20 = .ok (.aload_n 3, 1) := by decide +kernel
theorem dX10_letter_21 : decode cX10_letter 21 = .ok (.getfield 80, 3) := by decide +kernel
theorem dX10_letter_24 : decode cX10_letter 24 = .ok (.iload_n 2, 1) := by decide +kernel
theorem dX10_letter_25 : decode cX10_letter 25 = .ok (.invokevirtual 140, 3) := by decide +kernel
theorem dX10_letter_28 : decode cX10_letter 28 = .ok (.ireturn, 1) := by decide +kernel
theorem dX10_set_0 : decode cX10_set 0 = .ok (.iload_n 1, 1) := by decide +kernel
theorem dX10_set_1 : decode cX10_set 1 = .ok (.ifCond .lt 30, 3) := by decide +kernel
theorem dX10_set_4 : decode cX10_set 4 = .ok (.iload_n 1, 1) := by decide +kernel
theorem dX10_set_5 : decode cX10_set 5 = .ok (.iconst 5, 1) := by decide +kernel
theorem dX10_set_6 : decode cX10_set 6 = .ok (.if_icmp .ge 25, 3) := by decide +kernel
theorem dX10_set_9 : decode cX10_set 9 = .ok (.iload_n 2, 1) := by decide +kernel
theorem dX10_set_10 : decode cX10_set 10 = .ok (.getstatic 144, 3) := by decide +kernel
theorem dX10_set_13 : decode cX10_set 13 = .ok (.iload_n 1, 1) := by decide +kernel
theorem dX10_set_14 : decode cX10_set 14 = .ok (.invokestatic 148, 3) := by decide +kernel
theorem dX10_set_17 : decode cX10_set 17 = .ok (.if_icmp .lt 14, 3) := by decide +kernel
theorem dX10_set_20 : decode cX10_set 20 = .ok (.iload_n 2, 1) := by decide +kernel
theorem dX10_set_21 : decode cX10_set 21 = .ok (.getstatic 152, 3) := by decide +kernel
theorem dX10_set_24 : decode cX10_set 24 = .ok (.iload_n 1, 1) := by decide +kernel
theorem dX10_set_25 : decode cX10_set 25 = .ok (.invokestatic 148, 3) := by decide +kernel
theorem dX10_set_28 : decode cX10_set 28 = .ok (.if_icmp .le 6, 3) := by decide +kernel
theorem dX10_set_31 : decode cX10_set 31 = .ok (.bipush (-2), 2) := by decide +kernel
theorem dX10_set_33 : decode cX10_set 33 = .ok (.ireturn, 1) := by decide +kernel
theorem dX10_set_34 : decode cX10_set 34 = .ok (.aload_n 0, 1) := by decide +kernel
theorem dX10_set_35 : decode cX10_set 35 = .ok (.getfield 19, 3) := by decide +kernel
theorem dX10_set_38 : decode cX10_set 38 = .ok (.iload_n 1, 1) := by decide +kernel
theorem dX10_set_39 : decode cX10_set 39 = .ok (.invokevirtual 155, 3) := by decide +kernel
theorem dX10_set_42 : decode cX10_set 42 = .ok (.istore_n 3, 1) := by decide +kernel
theorem dX10_set_43 : decode cX10_set 43 = .ok (.aload_n 0, 1) := by decide +kernel
theorem dX10_set_44 : decode cX10_set 44 = .ok (.getfield 26, 3) := by decide +kernel
theorem dX10_set_47 : decode cX10_set 47 = .ok (.aload_n 0, 1) := by decide +kernel
theorem dX10_set_48 : decode cX10_set 48 = .ok (.getfield 19, 3) := by decide +kernel
theorem dX10_set_51 : decode cX10_set 51 = .ok (.invokevirtual 58, 3) := by decide +kernel
theorem dX10_set_54 : decode cX10_set 54 = .ok (.aload_n 0, 1) := by decide +kernel
theorem dX10_set_55 : decode cX10_set 55 = .ok (.getfield 19, 3) := by decide +kernel
theorem dX10_set_58 : decode cX10_set 58 = .ok (.iload_n 1, 1) := by decide +kernel
theorem dX10_set_59 : decode cX10_set 59 = .ok (.iload_n 2, 1) := by decide +kernel
theorem dX10_set_60 : decode cX10_set 60 = .ok (.invokevirtual 158, 3) := by decide +kernel
theorem dX10_set_63 : decode cX10_set 63 = .ok (.aload_n 0, 1) := by decide +kernel
theorem dX10_set_64 : decode cX10_set 64 = .ok (.invokevirtual 70, 3) := by decide +kernel
theorem dX10_set_67 : decode cX10_set 67 = .ok (.iload_n 3, 1) := by decide +kernel
theorem dX10_set_68 : decode cX10_set 68 = .ok (.ireturn, 1) := by decide +kernel
theorem dX10_undo_0 : decode cX10_undo 0 = .ok (.aload_n 0, 1) := by decide +kernel
theorem dX10_undo_1 : decode cX10_undo 1 = .ok (.getfield 26, 3) := by decide +kernel
theorem dX10_undo_4 : decode cX10_undo 4 = .ok (.getfield 162, 3) := by decide +kernel
theorem dX10_undo_7 : decode cX10_undo 7 = .ok (.ifCond .ne 6, 3) := by decide +kernel
theorem dX10_undo_10 : decode cX10_undo 10 = .ok (.bipush (-3), 2) := by decide +kernel
theorem dX10_undo_12 : decode cX10_undo 12 = .ok (.ireturn, 1) := by decide +kernel
theorem dX10_undo_13 : decode cX10_undo 13 = .ok (.aload_n 0, 1) := by decide +kernel
theorem dX10_undo_14 : decode cX10_undo 14 = .ok (.getfield 26, 3) := by decide +kernel
theorem dX10_undo_17 : decode cX10_undo 17 = .ok (.aload_n 0, 1) := by decide +kernel
theorem dX10_undo_18 : decode cX10_undo 18 = .ok (.getfield 19, 3) := by decide +kernel
theorem dX10_undo_21 : decode cX10_undo 21 = .ok (.invokevirtual 163, 3) := by decide +kernel
theorem dX10_undo_24 : decode cX10_undo 24 = .ok (.aload_n 0, 1) := by decide +kernel
theorem dX10_undo_25 : decode cX10_undo 25 = .ok (.invokevirtual 70, 3) := by decide +kernel
theorem dX10_undo_28 : decode cX10_undo 28 = .ok (.aload_n 0, 1) := by decide +kernel
theorem dX10_undo_29 : decode cX10_undo 29 = .ok (.getfield 26, 3) := by decide +kernel
theorem dX10_undo_32 : decode cX10_undo 32 = .ok (.getfield 162, 3) := by decide +kernel
theorem dX10_undo_35 : decode cX10_undo 35 = .ok (.ireturn, 1) := by decide +kernel
theorem dX10_row_0 : decode cX10_row 0 = .ok (.iload_n 1, 1) := by decide +kernel
theorem dX10_row_1 : decode cX10_row 1 = .ok (.ifCond .lt 13, 3) := by decide +kernel
theorem dX10_row_4 : decode cX10_row 4 = .ok (.iload_n 2, 1) := by decide +kernel
theorem dX10_row_5 : decode cX10_row 5 = .ok (.ifCond .lt 9, 3) := by decide +kernel
theorem dX10_row_8 : decode cX10_row 8 = .ok (.iload_n 2, 1) := by decide +kernel
theorem dX10_row_9 : decode cX10_row 9 = .ok (.bipush 9, 2) := by decide +kernel
theorem dX10_row_11 : decode cX10_row 11 = .ok (.if_icmp .lt 6, 3) := by decide +kernel
theorem dX10_row_14 : decode cX10_row 14 = .ok (.bipush (-2), 2) := by decide +kernel
theorem dX10_row_16 : decode cX10_row 16 = .ok (.ireturn, 1) := by decide +kernel
theorem dX10_row_17 : decode cX10_row 17 = .ok (.aload_n 0, 1) := by decide +kernel
theorem dX10_row_18 : decode cX10_row 18 = .ok (.getfield 33, 3) := by decide +kernel
theorem dX10_row_21 : decode cX10_row 21 = .ok (.iload_n 1, 1) := by decide +kernel
theorem dX10_row_22 : decode cX10_row 22 = .ok (.invokevirtual 166, 3) := by decide +kernel
theorem dX10_row_25 : decode cX10_row 25 = .ok (.astore_n 3, 1) := by decide +kernel
theorem dX10_row_26 : decode cX10_row 26 = .ok (.aload_n 3, 1) := by decide +kernel
theorem dX10_row_27 : decode cX10_row 27 = .ok (.ifnonnull 5, 3) := by decide +kernel
theorem dX10_row_30 : decode cX10_row 30 = .ok (.iconst (-1), 1) := by decide +kernel
theorem dX10_row_31 : decode cX10_row 31 = .ok (.ireturn, 1) := by decide +kernel
theorem dX10_row_32 : decode cX10_row 32 = .ok (.iload_n 2, 1) := by decide +kernel
theorem dX10_row_33 : decode cX10_row 33 = .ok (.tableswitch 90 0 7 #[47, 52, 57, 62, 67, 72, 77, 82], 47) := by decide +kernel
theorem dX10_row_80 : decode cX10_row 80 = .ok (.aload_n 3, 1) := by decide +kernel
theorem dX10_row_81 : decode cX10_row 81 = .ok (.getfield 170, 3) := by decide +kernel
theorem dX10_row_84 : decode cX10_row 84 = .ok (.ireturn, 1) := by decide +kernel
theorem dX10_row_85 : decode cX10_row 85 = .ok (.aload_n 3, 1) := by decide +kernel
theorem dX10_row_86 : decode cX10_row 86 = .ok (.getfield 175, 3) := by decide +kernel
theorem dX10_row_89 : decode cX10_row 89 = .ok (.ireturn, 1) := by decide +kernel
theorem dX10_row_90 : decode cX10_row 90 = .ok (.aload_n 3, 1) := by decide +kernel
theorem dX10_row_91 : decode cX10_row 91 = .ok (.getfield 178, 3) := by decide +kernel
theorem dX10_row_94 : decode cX10_row 94 = .ok (.ireturn, 1) := by decide +kernel
theorem dX10_row_95 : decode cX10_row 95 = .ok (.aload_n 3, 1) := by decide +kernel
theorem dX10_row_96 : decode cX10_row 96 = .ok (.getfield 181, 3) := by decide +kernel
theorem dX10_row_99 : decode cX10_row 99 = .ok (.ireturn, 1) := by decide +kernel
theorem dX10_row_100 : decode cX10_row 100 = .ok (.aload_n 3, 1) := by decide +kernel
theorem dX10_row_101 : decode cX10_row 101 = .ok (.getfield 184, 3) := by decide +kernel
theorem dX10_row_104 : decode cX10_row 104 = .ok (.ireturn, 1) := by decide +kernel
theorem dX10_row_105 : decode cX10_row 105 = .ok (.aload_n 3, 1) := by decide +kernel
theorem dX10_row_106 : decode cX10_row 106 = .ok (.getfield 187, 3) := by decide +kernel
theorem dX10_row_109 : decode cX10_row 109 = .ok (.ireturn, 1) := by decide +kernel
theorem dX10_row_110 : decode cX10_row 110 = .ok (.aload_n 3, 1) := by decide +kernel
theorem dX10_row_111 : decode cX10_row 111 = .ok (.getfield 188, 3) := by decide +kernel
theorem dX10_row_114 : decode cX10_row 114 = .ok (.ireturn, 1) := by decide +kernel
theorem dX10_row_115 : decode cX10_row 115 = .ok (.aload_n 3, 1) := by decide +kernel
theorem dX10_row_116 : decode cX10_row 116 = .ok (.getfield 191, 3) := by decide +kernel
theorem dX10_row_119 : decode cX10_row 119 = .ok (.invokestatic 112, 3) := by decide +kernel
theorem dX10_row_122 : decode cX10_row 122 = .ok (.ireturn, 1) := by decide +kernel
theorem dX10_row_123 : decode cX10_row 123 = .ok (.aload_n 3, 1) := by decide +kernel
theorem dX10_row_124 : decode cX10_row 124 = .ok (.invokevirtual 194, 3) := by decide +kernel
theorem dX10_row_127 : decode cX10_row 127 = .ok (.ireturn, 1) := by decide +kernel
theorem dX10_at_0 : decode cX10_at 0 = .ok (.aload_n 0, 1) := by decide +kernel
theorem dX10_at_1 : decode cX10_at 1 = .ok (.getfield 33, 3) := by decide +kernel
theorem dX10_at_4 : decode cX10_at 4 = .ok (.iload_n 1, 1) := by decide +kernel
theorem dX10_at_5 : decode cX10_at 5 = .ok (.invokevirtual 197, 3) := by decide +kernel
theorem dX10_at_8 : decode cX10_at 8 = .ok (.astore 4, 2) := by decide +kernel
theorem dX10_at_10 : decode cX10_at 10 = .ok (.aload 4, 2) := by decide +kernel
theorem dX10_at_12 : decode cX10_at 12 = .ok (.ifnull 19, 3) := by decide +kernel
theorem dX10_at_15 : decode cX10_at 15 = .ok (.iload_n 2, 1) := by decide +kernel
theorem dX10_at_16 : decode cX10_at 16 = .ok (.ifCond .lt 15, 3) := by decide +kernel
theorem dX10_at_19 : decode cX10_at 19 = .ok (.iload_n 2, 1) := by decide +kernel
theorem dX10_at_20 : decode cX10_at 20 = .ok (.aload_n 0, 1) := by decide +kernel
theorem dX10_at_21 : decode cX10_at 21 = .ok (.getfield 19, 3) := by decide +kernel
theorem dX10_at_24 : decode cX10_at 24 = .ok (.iconst 1, 1) := by decide +kernel
theorem dX10_at_25 : decode cX10_at 25 = .ok (.invokevirtual 155, 3) := by decide +kernel
theorem dX10_at_28 : decode cX10_at 28 = .ok (.if_icmp .lt 6, 3) := by decide +kernel
theorem dX10_at_31 : decode cX10_at 31 = .ok (.bipush (-2), 2) := by decide +kernel
theorem dX10_at_33 : decode cX10_at 33 = .ok (.ireturn, 1) := by decide +kernel
theorem dX10_at_34 : decode cX10_at 34 = .ok (.iload_n 3, 1) := by decide +kernel
theorem dX10_at_35 : decode cX10_at 35 = .ok (.ifCond .lt 15, 3) := by decide +kernel
theorem dX10_at_38 : decode cX10_at 38 = .ok (.iload_n 3, 1) := by decide +kernel
theorem dX10_at_39 : decode cX10_at 39 = .ok (.aload_n 0, 1) := by decide +kernel
theorem dX10_at_40 : decode cX10_at 40 = .ok (.getfield 19, 3) := by decide +kernel
theorem dX10_at_43 : decode cX10_at 43 = .ok (.iconst 0, 1) := by decide +kernel
theorem dX10_at_44 : decode cX10_at 44 = .ok (.invokevirtual 155, 3) := by decide +kernel
theorem dX10_at_47 : decode cX10_at 47 = .ok (.if_icmp .lt 6, 3) := by decide +kernel
theorem dX10_at_50 : decode cX10_at 50 = .ok (.bipush (-2), 2) := by decide +kernel
theorem dX10_at_52 : decode cX10_at 52 = .ok (.ireturn, 1) := by decide +kernel
theorem dX10_at_53 : decode cX10_at 53 = .ok (.aload_n 0, 1) := by decide +kernel
theorem dX10_at_54 : decode cX10_at 54 = .ok (.aload_n 0, 1) := by decide +kernel
theorem dX10_at_55 : decode cX10_at 55 = .ok (.getfield 33, 3) := by decide +kernel
theorem dX10_at_58 : decode cX10_at 58 = .ok (.aload 4, 2) := by decide +kernel
theorem dX10_at_60 : decode cX10_at 60 = .ok (.iload_n 2, 1) := by decide +kernel
theorem dX10_at_61 : decode cX10_at 61 = .ok (.invokevirtual 201, 3) := by decide +kernel
theorem dX10_at_64 : decode cX10_at 64 = .ok (.iload_n 3, 1) := by decide +kernel
theorem dX10_at_65 : decode cX10_at 65 = .ok (.invokevirtual 205, 3) := by decide +kernel
theorem dX10_at_68 : decode cX10_at 68 = .ok (.ireturn, 1) := by decide +kernel
theorem dX10_page_0 : decode cX10_page 0 = .ok (.aload_n 0, 1) := by decide +kernel
theorem dX10_page_1 : decode cX10_page 1 = .ok (.getfield 33, 3) := by decide +kernel
theorem dX10_page_4 : decode cX10_page 4 = .ok (.iload_n 1, 1) := by decide +kernel
theorem dX10_page_5 : decode cX10_page 5 = .ok (.invokevirtual 197, 3) := by decide +kernel
theorem dX10_page_8 : decode cX10_page 8 = .ok (.astore_n 3, 1) := by decide +kernel
theorem dX10_page_9 : decode cX10_page 9 = .ok (.aload_n 3, 1) := by decide +kernel
theorem dX10_page_10 : decode cX10_page 10 = .ok (.ifnonnull 6, 3) := by decide +kernel
theorem dX10_page_13 : decode cX10_page 13 = .ok (.bipush (-2), 2) := by decide +kernel
theorem dX10_page_15 : decode cX10_page 15 = .ok (.ireturn, 1) := by decide +kernel
theorem dX10_page_16 : decode cX10_page 16 = .ok (.iload_n 2, 1) := by decide +kernel
theorem dX10_page_17 : decode cX10_page 17 = .ok (.tableswitch 63 0 4 #[35, 40, 45, 53, 58], 35) := by decide +kernel
theorem dX10_page_52 : decode cX10_page 52 = .ok (.aload_n 3, 1) := by decide +kernel
theorem dX10_page_53 : decode cX10_page 53 = .ok (.getfield 209, 3) := by decide +kernel
theorem dX10_page_56 : decode cX10_page 56 = .ok (.ireturn, 1) := by decide +kernel
theorem dX10_page_57 : decode cX10_page 57 = .ok (.aload_n 3, 1) := by decide +kernel
theorem dX10_page_58 : decode cX10_page 58 = .ok (.getfield 212, 3) := by decide +kernel
theorem dX10_page_61 : decode cX10_page 61 = .ok (.ireturn, 1) := by decide +kernel
theorem dX10_page_62 : decode cX10_page 62 = .ok (.aload_n 3, 1) := by decide +kernel
theorem dX10_page_63 : decode cX10_page 63 = .ok (.getfield 215, 3) := by decide +kernel
theorem dX10_page_66 : decode cX10_page 66 = .ok (.invokestatic 112, 3) := by decide +kernel
theorem dX10_page_69 : decode cX10_page 69 = .ok (.ireturn, 1) := by decide +kernel
theorem dX10_page_70 : decode cX10_page 70 = .ok (.aload_n 3, 1) := by decide +kernel
theorem dX10_page_71 : decode cX10_page 71 = .ok (.getfield 218, 3) := by decide +kernel
theorem dX10_page_74 : decode cX10_page 74 = .ok (.ireturn, 1) := by decide +kernel
theorem dX10_page_75 : decode cX10_page 75 = .ok (.aload_n 3, 1) := by decide +kernel
theorem dX10_page_76 : decode cX10_page 76 = .ok (.getfield 219, 3) := by decide +kernel
theorem dX10_page_79 : decode cX10_page 79 = .ok (.ireturn, 1) := by decide +kernel
theorem dX10_page_80 : decode cX10_page 80 = .ok (.bipush (-2), 2) := by decide +kernel
theorem dX10_page_82 : decode cX10_page 82 = .ok (.ireturn, 1) := by decide +kernel
theorem dX10_distance_0 : decode cX10_distance 0 = .ok (.aload_n 0, 1) := by decide +kernel
theorem dX10_distance_1 : decode cX10_distance 1 = .ok (.getfield 33, 3) := by decide +kernel
theorem dX10_distance_4 : decode cX10_distance 4 = .ok (.iload_n 1, 1) := by decide +kernel
theorem dX10_distance_5 : decode cX10_distance 5 = .ok (.invokevirtual 222, 3) := by decide +kernel
theorem dX10_distance_8 : decode cX10_distance 8 = .ok (.astore_n 2, 1) := by decide +kernel
theorem dX10_distance_9 : decode cX10_distance 9 = .ok (.aload_n 2, 1) := by decide +kernel
theorem dX10_distance_10 : decode cX10_distance 10 = .ok (.ifnonnull 6, 3) := by decide +kernel
theorem dX10_distance_13 : decode cX10_distance 13 = .ok (.bipush (-2), 2) := by decide +kernel
theorem dX10_distance_15 : decode cX10_distance 15 = .ok (.ireturn, 1) := by decide +kernel
theorem dX10_distance_16 : decode cX10_distance 16 = .ok (.aload_n 0, 1) := by decide +kernel
theorem dX10_distance_17 : decode cX10_distance 17 = .ok (.getfield 12, 3) := by decide +kernel
theorem dX10_distance_20 : decode cX10_distance 20 = .ok (.invokevirtual 48, 3) := by decide +kernel
theorem dX10_distance_23 : decode cX10_distance 23 = .ok (.istore_n 3, 1) := by decide +kernel
theorem dX10_distance_24 : decode cX10_distance 24 = .ok (.iload_n 3, 1) := by decide +kernel
theorem dX10_distance_25 : decode cX10_distance 25 = .ok (.iconst (-1), 1) := by decide +kernel
theorem dX10_distance_26 : decode cX10_distance 26 = .ok (.if_icmp .eq 9, 3) := by decide +kernel
theorem dX10_distance_29 : decode cX10_distance 29 = .ok (.sipush (-2000), 3) := by decide +kernel
theorem dX10_distance_32 : decode cX10_distance 32 = .ok (.iload_n 3, 1) := by decide +kernel
theorem dX10_distance_33 : decode cX10_distance 33 = .ok (.isub, 1) := by decide +kernel
theorem dX10_distance_34 : decode cX10_distance 34 = .ok (.ireturn, 1) := by decide +kernel
theorem dX10_distance_35 : decode cX10_distance 35 = .ok (.aload_n 0, 1) := by decide +kernel
theorem dX10_distance_36 : decode cX10_distance 36 = .ok (.getfield 33, 3) := by decide +kernel
theorem dX10_distance_39 : decode cX10_distance 39 = .ok (.aload_n 0, 1) := by decide +kernel
theorem dX10_distance_40 : decode cX10_distance 40 = .ok (.getfield 12, 3) := by decide +kernel
theorem dX10_distance_43 : decode cX10_distance 43 = .ok (.invokevirtual 226, 3) := by decide +kernel
theorem dX10_distance_46 : decode cX10_distance 46 = .ok (.aload_n 2, 1) := by decide +kernel
theorem dX10_distance_47 : decode cX10_distance 47 = .ok (.invokevirtual 229, 3) := by decide +kernel
theorem dX10_distance_50 : decode cX10_distance 50 = .ok (.ireturn, 1) := by decide +kernel
theorem dX10_shape_0 : decode cX10_shape 0 = .ok (.aload_n 0, 1) := by decide +kernel
theorem dX10_shape_1 : decode cX10_shape 1 = .ok (.getfield 33, 3) := by decide +kernel
theorem dX10_shape_4 : decode cX10_shape 4 = .ok (.iload_n 1, 1) := by decide +kernel
theorem dX10_shape_5 : decode cX10_shape 5 = .ok (.invokevirtual 222, 3) := by decide +kernel
theorem dX10_shape_8 : decode cX10_shape 8 = .ok (.astore_n 2, 1) := by decide +kernel
theorem dX10_shape_9 : decode cX10_shape 9 = .ok (.aload_n 2, 1) := by decide +kernel
theorem dX10_shape_10 : decode cX10_shape 10 = .ok (.ifnonnull 6, 3) := by decide +kernel
theorem dX10_shape_13 : decode cX10_shape 13 = .ok (.bipush (-2), 2) := by decide +kernel
theorem dX10_shape_15 : decode cX10_shape 15 = .ok (.ireturn, 1) := by decide +kernel
theorem dX10_shape_16 : decode cX10_shape 16 = .ok (.iconst 0, 1) := by decide +kernel
theorem dX10_shape_17 : decode cX10_shape 17 = .ok (.istore_n 3, 1) := by decide +kernel
theorem dX10_shape_18 : decode cX10_shape 18 = .ok (.aload_n 0, 1) := by decide +kernel
theorem dX10_shape_19 : decode cX10_shape 19 = .ok (.getfield 33, 3) := by decide +kernel
theorem dX10_shape_22 : decode cX10_shape 22 = .ok (.iconst 0, 1) := by decide +kernel
theorem dX10_shape_23 : decode cX10_shape 23 = .ok (.aload_n 2, 1) := by decide +kernel
theorem dX10_shape_24 : decode cX10_shape 24 = .ok (.invokevirtual 229, 3) := by decide +kernel
theorem dX10_shape_27 : decode cX10_shape 27 = .ok (.istore 4, 2) := by decide +kernel
theorem dX10_shape_29 : decode cX10_shape 29 = .ok (.iconst 1, 1) := by decide +kernel
theorem dX10_shape_30 : decode cX10_shape 30 = .ok (.istore 5, 2) := by decide +kernel
theorem dX10_shape_32 : decode cX10_shape 32 = .ok (.iload 5, 2) := by decide +kernel
theorem dX10_shape_34 : decode cX10_shape 34 = .ok (.iconst 4, 1) := by decide +kernel
theorem dX10_shape_35 : decode cX10_shape 35 = .ok (.if_icmp .ge 35, 3) := by decide +kernel
theorem dX10_shape_38 : decode cX10_shape 38 = .ok (.aload_n 0, 1) := by decide +kernel
theorem dX10_shape_39 : decode cX10_shape 39 = .ok (.getfield 33, 3) := by decide +kernel
theorem dX10_shape_42 : decode cX10_shape 42 = .ok (.iload 5, 2) := by decide +kernel
theorem dX10_shape_44 : decode cX10_shape 44 = .ok (.aload_n 2, 1) := by decide +kernel
theorem dX10_shape_45 : decode cX10_shape 45 = .ok (.invokevirtual 229, 3) := by decide +kernel
theorem dX10_shape_48 : decode cX10_shape 48 = .ok (.istore 6, 2) := by decide +kernel
theorem dX10_shape_50 : decode cX10_shape 50 = .ok (.iload 6, 2) := by decide +kernel
theorem dX10_shape_52 : decode cX10_shape 52 = .ok (.iload 4, 2) := by decide +kernel
theorem dX10_shape_54 : decode cX10_shape 54 = .ok (.if_icmp .ge 10, 3) := by decide +kernel
theorem dX10_shape_57 : decode cX10_shape 57 = .ok (.iload 5, 2) := by decide +kernel
theorem dX10_shape_59 : decode cX10_shape 59 = .ok (.istore_n 3, 1) := by decide +kernel
theorem dX10_shape_60 : decode cX10_shape 60 = .ok (.iload 6, 2) := by decide +kernel
theorem dX10_shape_62 : decode cX10_shape 62 = .ok (.istore 4, 2) := by decide +kernel
theorem dX10_shape_64 : decode cX10_shape 64 = .ok (.iinc 5 1, 3) := by decide +kernel
theorem dX10_shape_67 : decode cX10_shape 67 = .ok (.goto (-35), 3) := by decide +kernel
theorem dX10_shape_70 : decode cX10_shape 70 = .ok (.iload_n 3, 1) := by decide +kernel
theorem dX10_shape_71 : decode cX10_shape 71 = .ok (.ireturn, 1) := by decide +kernel
theorem dX10_bestWidth_0 : decode cX10_bestWidth 0 = .ok (.iload_n 1, 1) := by decide +kernel
theorem dX10_bestWidth_1 : decode cX10_bestWidth 1 = .ok (.ifCond .lt 8, 3) := by decide +kernel
theorem dX10_bestWidth_4 : decode cX10_bestWidth 4 = .ok (.iload_n 1, 1) := by decide +kernel
theorem dX10_bestWidth_5 : decode cX10_bestWidth 5 = .ok (.iconst 2, 1) := by decide +kernel
theorem dX10_bestWidth_6 : decode cX10_bestWidth 6 = .ok (.if_icmp .le 6, 3) := by decide +kernel
theorem dX10_bestWidth_9 : decode cX10_bestWidth 9 = .ok (.bipush (-2), 2) := by decide +kernel
theorem dX10_bestWidth_11 : decode cX10_bestWidth 11 = .ok (.ireturn, 1) := by decide +kernel
theorem dX10_bestWidth_12 : decode cX10_bestWidth 12 = .ok (.aload_n 0, 1) := by decide +kernel
theorem dX10_bestWidth_13 : decode cX10_bestWidth 13 = .ok (.getfield 19, 3) := by decide +kernel
theorem dX10_bestWidth_16 : decode cX10_bestWidth 16 = .ok (.getfield 55, 3) := by decide +kernel
theorem dX10_bestWidth_19 : decode cX10_bestWidth 19 = .ok (.ifCond .ne 6, 3) := by decide +kernel
theorem dX10_bestWidth_22 : decode cX10_bestWidth 22 = .ok (.bipush (-3), 2) := by decide +kernel
theorem dX10_bestWidth_24 : decode cX10_bestWidth 24 = .ok (.ireturn, 1) := by decide +kernel
theorem dX10_bestWidth_25 : decode cX10_bestWidth 25 = .ok (.iconst (-1), 1) := by decide +kernel
theorem dX10_bestWidth_26 : decode cX10_bestWidth 26 = .ok (.istore_n 2, 1) := by decide +kernel
theorem dX10_bestWidth_27 : decode cX10_bestWidth 27 = .ok (.iconst 0, 1) := by decide +kernel
theorem dX10_bestWidth_28 : decode cX10_bestWidth 28 = .ok (.istore_n 3, 1) := by decide +kernel
theorem dX10_bestWidth_29 : decode cX10_bestWidth 29 = .ok (.getstatic 144, 3) := by decide +kernel
theorem dX10_bestWidth_32 : decode cX10_bestWidth 32 = .ok (.iconst 0, 1) := by decide +kernel
theorem dX10_bestWidth_33 : decode cX10_bestWidth 33 = .ok (.invokestatic 148, 3) := by decide +kernel
theorem dX10_bestWidth_36 : decode cX10_bestWidth 36 = .ok (.istore 4, 2) := by decide +kernel
theorem dX10_bestWidth_38 : decode cX10_bestWidth 38 = .ok (.iload 4, 2) := by decide +kernel
theorem dX10_bestWidth_40 : decode cX10_bestWidth 40 = .ok (.getstatic 152, 3) := by decide +kernel
theorem dX10_bestWidth_43 : decode cX10_bestWidth 43 = .ok (.iconst 0, 1) := by decide +kernel
theorem dX10_bestWidth_44 : decode cX10_bestWidth 44 = .ok (.invokestatic 148, 3) := by decide +kernel
theorem dX10_bestWidth_47 : decode cX10_bestWidth 47 = .ok (.if_icmp .gt 35, 3) := by decide +kernel
theorem dX10_bestWidth_50 : decode cX10_bestWidth 50 = .ok (.aload_n 0, 1) := by decide +kernel
theorem dX10_bestWidth_51 : decode cX10_bestWidth 51 = .ok (.iload 4, 2) := by decide +kernel
theorem dX10_bestWidth_53 : decode cX10_bestWidth 53 = .ok (.iload_n 1, 1) := by decide +kernel
theorem dX10_bestWidth_54 : decode cX10_bestWidth 54 = .ok (.invokevirtual 233, 3) := by decide +kernel
theorem dX10_bestWidth_57 : decode cX10_bestWidth 57 = .ok (.istore 5, 2) := by decide +kernel
theorem dX10_bestWidth_59 : decode cX10_bestWidth 59 = .ok (.iload_n 2, 1) := by decide +kernel
theorem dX10_bestWidth_60 : decode cX10_bestWidth 60 = .ok (.iconst (-1), 1) := by decide +kernel
theorem dX10_bestWidth_61 : decode cX10_bestWidth 61 = .ok (.if_icmp .eq 9, 3) := by decide +kernel
theorem dX10_bestWidth_64 : decode cX10_bestWidth 64 = .ok (.iload 5, 2) := by decide +kernel
theorem dX10_bestWidth_66 : decode cX10_bestWidth 66 = .ok (.iload_n 3, 1) := by decide +kernel
theorem dX10_bestWidth_67 : decode cX10_bestWidth 67 = .ok (.if_icmp .ge 9, 3) := by decide +kernel
theorem dX10_bestWidth_70 : decode cX10_bestWidth 70 = .ok (.iload 4, 2) := by decide +kernel
theorem dX10_bestWidth_72 : decode cX10_bestWidth 72 = .ok (.istore_n 2, 1) := by decide +kernel
theorem dX10_bestWidth_73 : decode cX10_bestWidth 73 = .ok (.iload 5, 2) := by decide +kernel
theorem dX10_bestWidth_75 : decode cX10_bestWidth 75 = .ok (.istore_n 3, 1) := by decide +kernel
theorem dX10_bestWidth_76 : decode cX10_bestWidth 76 = .ok (.iinc 4 1, 3) := by decide +kernel
theorem dX10_bestWidth_79 : decode cX10_bestWidth 79 = .ok (.goto (-41), 3) := by decide +kernel
theorem dX10_bestWidth_82 : decode cX10_bestWidth 82 = .ok (.iload_n 2, 1) := by decide +kernel
theorem dX10_bestWidth_83 : decode cX10_bestWidth 83 = .ok (.ireturn, 1) := by decide +kernel
theorem dX10_leastHeight_0 : decode cX10_leastHeight 0 = .ok (.iload_n 1, 1) := by decide +kernel
theorem dX10_leastHeight_1 : decode cX10_leastHeight 1 = .ok (.iconst 1, 1) := by decide +kernel
theorem dX10_leastHeight_2 : decode cX10_leastHeight 2 = .ok (.if_icmp .lt 9, 3) := by decide +kernel
theorem dX10_leastHeight_5 : decode cX10_leastHeight 5 = .ok (.iload_n 1, 1) := by decide +kernel
theorem dX10_leastHeight_6 : decode cX10_leastHeight 6 = .ok (.bipush 99, 2) := by decide +kernel
theorem dX10_leastHeight_8 : decode cX10_leastHeight 8 = .ok (.if_icmp .le 6, 3) := by decide +kernel
theorem dX10_leastHeight_11 : decode cX10_leastHeight 11 = .ok (.bipush (-2), 2) := by decide +kernel
theorem dX10_leastHeight_13 : decode cX10_leastHeight 13 = .ok (.ireturn, 1) := by decide +kernel
theorem dX10_leastHeight_14 : decode cX10_leastHeight 14 = .ok (.aload_n 0, 1) := by decide +kernel
theorem dX10_leastHeight_15 : decode cX10_leastHeight 15 = .ok (.getfield 37, 3) := by decide +kernel
theorem dX10_leastHeight_18 : decode cX10_leastHeight 18 = .ok (.aload_n 0, 1) := by decide +kernel
theorem dX10_leastHeight_19 : decode cX10_leastHeight 19 = .ok (.getfield 19, 3) := by decide +kernel
theorem dX10_leastHeight_22 : decode cX10_leastHeight 22 = .ok (.aload_n 0, 1) := by decide +kernel
theorem dX10_leastHeight_23 : decode cX10_leastHeight 23 = .ok (.getfield 19, 3) := by decide +kernel
theorem dX10_leastHeight_26 : decode cX10_leastHeight 26 = .ok (.iconst 0, 1) := by decide +kernel
theorem dX10_leastHeight_27 : decode cX10_leastHeight 27 = .ok (.invokevirtual 155, 3) := by decide +kernel
theorem dX10_leastHeight_30 : decode cX10_leastHeight 30 = .ok (.invokevirtual 237, 3) := by decide +kernel
theorem dX10_leastHeight_33 : decode cX10_leastHeight 33 = .ok (.getstatic 144, 3) := by decide +kernel
theorem dX10_leastHeight_36 : decode cX10_leastHeight 36 = .ok (.iconst 1, 1) := by decide +kernel
theorem dX10_leastHeight_37 : decode cX10_leastHeight 37 = .ok (.invokestatic 148, 3) := by decide +kernel
theorem dX10_leastHeight_40 : decode cX10_leastHeight 40 = .ok (.istore_n 2, 1) := by decide +kernel
theorem dX10_leastHeight_41 : decode cX10_leastHeight 41 = .ok (.iload_n 2, 1) := by decide +kernel
theorem dX10_leastHeight_42 : decode cX10_leastHeight 42 = .ok (.getstatic 152, 3) := by decide +kernel
theorem dX10_leastHeight_45 : decode cX10_leastHeight 45 = .ok (.iconst 1, 1) := by decide +kernel
theorem dX10_leastHeight_46 : decode cX10_leastHeight 46 = .ok (.invokestatic 148, 3) := by decide +kernel
theorem dX10_leastHeight_49 : decode cX10_leastHeight 49 = .ok (.if_icmp .gt 38, 3) := by decide +kernel
theorem dX10_leastHeight_52 : decode cX10_leastHeight 52 = .ok (.aload_n 0, 1) := by decide +kernel
theorem dX10_leastHeight_53 : decode cX10_leastHeight 53 = .ok (.getfield 37, 3) := by decide +kernel
theorem dX10_leastHeight_56 : decode cX10_leastHeight 56 = .ok (.iload_n 2, 1) := by decide +kernel
theorem dX10_leastHeight_57 : decode cX10_leastHeight 57 = .ok (.aload_n 0, 1) := by decide +kernel
theorem dX10_leastHeight_58 : decode cX10_leastHeight 58 = .ok (.getfield 19, 3) := by decide +kernel
theorem dX10_leastHeight_61 : decode cX10_leastHeight 61 = .ok (.iconst 4, 1) := by decide +kernel
theorem dX10_leastHeight_62 : decode cX10_leastHeight 62 = .ok (.invokevirtual 155, 3) := by decide +kernel
theorem dX10_leastHeight_65 : decode cX10_leastHeight 65 = .ok (.invokevirtual 241, 3) := by decide +kernel
theorem dX10_leastHeight_68 : decode cX10_leastHeight 68 = .ok (.aload_n 0, 1) := by decide +kernel
theorem dX10_leastHeight_69 : decode cX10_leastHeight 69 = .ok (.getfield 37, 3) := by decide +kernel
theorem dX10_leastHeight_72 : decode cX10_leastHeight 72 = .ok (.getfield 244, 3) := by decide +kernel
theorem dX10_leastHeight_75 : decode cX10_leastHeight 75 = .ok (.iload_n 1, 1) := by decide +kernel
theorem dX10_leastHeight_76 : decode cX10_leastHeight 76 = .ok (.if_icmp .gt 5, 3) := by decide +kernel
theorem dX10_leastHeight_79 : decode cX10_leastHeight 79 = .ok (.iload_n 2, 1) := by decide +kernel
theorem dX10_leastHeight_80 : decode cX10_leastHeight 80 = .ok (.ireturn, 1) := by decide +kernel
theorem dX10_leastHeight_81 : decode cX10_leastHeight 81 = .ok (.iinc 2 1, 3) := by decide +kernel
theorem dX10_leastHeight_84 : decode cX10_leastHeight 84 = .ok (.goto (-43), 3) := by decide +kernel
theorem dX10_leastHeight_87 : decode cX10_leastHeight 87 = .ok (.iconst (-1), 1) := by decide +kernel
theorem dX10_leastHeight_88 : decode cX10_leastHeight 88 = .ok (.ireturn, 1) := by decide +kernel
theorem dX10_count_0 : decode cX10_count 0 = .ok (.iload_n 1, 1) := by decide +kernel
theorem dX10_count_1 : decode cX10_count 1 = .ok (.tableswitch 155 0 10 #[59, 67, 75, 83, 91, 99, 107, 115, 123, 139, 147], 59) := by decide +kernel
theorem dX10_count_60 : decode cX10_count 60 = .ok (.aload_n 0, 1) := by decide +kernel
theorem dX10_count_61 : decode cX10_count 61 = .ok (.getfield 19, 3) := by decide +kernel
theorem dX10_count_64 : decode cX10_count 64 = .ok (.getfield 55, 3) := by decide +kernel
theorem dX10_count_67 : decode cX10_count 67 = .ok (.ireturn, 1) := by decide +kernel
theorem dX10_count_68 : decode cX10_count 68 = .ok (.aload_n 0, 1) := by decide +kernel
theorem dX10_count_69 : decode cX10_count 69 = .ok (.getfield 33, 3) := by decide +kernel
theorem dX10_count_72 : decode cX10_count 72 = .ok (.getfield 96, 3) := by decide +kernel
theorem dX10_count_75 : decode cX10_count 75 = .ok (.ireturn, 1) := by decide +kernel
theorem dX10_count_76 : decode cX10_count 76 = .ok (.aload_n 0, 1) := by decide +kernel
theorem dX10_count_77 : decode cX10_count 77 = .ok (.getfield 33, 3) := by decide +kernel
theorem dX10_count_80 : decode cX10_count 80 = .ok (.getfield 247, 3) := by decide +kernel
theorem dX10_count_83 : decode cX10_count 83 = .ok (.ireturn, 1) := by decide +kernel
theorem dX10_count_84 : decode cX10_count 84 = .ok (.aload_n 0, 1) := by decide +kernel
theorem dX10_count_85 : decode cX10_count 85 = .ok (.getfield 33, 3) := by decide +kernel
theorem dX10_count_88 : decode cX10_count 88 = .ok (.getfield 244, 3) := by decide +kernel
theorem dX10_count_91 : decode cX10_count 91 = .ok (.ireturn, 1) := by decide +kernel
theorem dX10_count_92 : decode cX10_count 92 = .ok (.aload_n 0, 1) := by decide +kernel
theorem dX10_count_93 : decode cX10_count 93 = .ok (.getfield 33, 3) := by decide +kernel
theorem dX10_count_96 : decode cX10_count 96 = .ok (.invokevirtual 250, 3) := by decide +kernel
theorem dX10_count_99 : decode cX10_count 99 = .ok (.ireturn, 1) := by decide +kernel
theorem dX10_count_100 : decode cX10_count 100 = .ok (.aload_n 0, 1) := by decide +kernel
theorem dX10_count_101 : decode cX10_count 101 = .ok (.getfield 33, 3) := by decide +kernel
theorem dX10_count_104 : decode cX10_count 104 = .ok (.invokevirtual 253, 3) := by decide +kernel
theorem dX10_count_107 : decode cX10_count 107 = .ok (.ireturn, 1) := by decide +kernel
theorem dX10_count_108 : decode cX10_count 108 = .ok (.aload_n 0, 1) := by decide +kernel
theorem dX10_count_109 : decode cX10_count 109 = .ok (.getfield 33, 3) := by decide +kernel
theorem dX10_count_112 : decode cX10_count 112 = .ok (.invokevirtual 256, 3) := by decide +kernel
theorem dX10_count_115 : decode cX10_count 115 = .ok (.ireturn, 1) := by decide +kernel
theorem dX10_count_116 : decode cX10_count 116 = .ok (.aload_n 0, 1) := by decide +kernel
theorem dX10_count_117 : decode cX10_count 117 = .ok (.getfield 33, 3) := by decide +kernel
theorem dX10_count_120 : decode cX10_count 120 = .ok (.invokevirtual 259, 3) := by decide +kernel
theorem dX10_count_123 : decode cX10_count 123 = .ok (.ireturn, 1) := by decide +kernel
theorem dX10_count_124 : decode cX10_count 124 = .ok (.aload_n 0, 1) := by decide +kernel
theorem dX10_count_125 : decode cX10_count 125 = .ok (.getfield 33, 3) := by decide +kernel
theorem dX10_count_128 : decode cX10_count 128 = .ok (.iconst 0, 1) := by decide +kernel
theorem dX10_count_129 : decode cX10_count 129 = .ok (.aload_n 0, 1) := by decide +kernel
theorem dX10_count_130 : decode cX10_count 130 = .ok (.getfield 33, 3) := by decide +kernel
theorem dX10_count_133 : decode cX10_count 133 = .ok (.getfield 247, 3) := by decide +kernel
theorem dX10_count_136 : decode cX10_count 136 = .ok (.invokevirtual 262, 3) := by decide +kernel
theorem dX10_count_139 : decode cX10_count 139 = .ok (.ireturn, 1) := by decide +kernel
theorem dX10_count_140 : decode cX10_count 140 = .ok (.aload_n 0, 1) := by decide +kernel
theorem dX10_count_141 : decode cX10_count 141 = .ok (.getfield 26, 3) := by decide +kernel
theorem dX10_count_144 : decode cX10_count 144 = .ok (.getfield 162, 3) := by decide +kernel
theorem dX10_count_147 : decode cX10_count 147 = .ok (.ireturn, 1) := by decide +kernel
theorem dX10_count_148 : decode cX10_count 148 = .ok (.aload_n 0, 1) := by decide +kernel
theorem dX10_count_149 : decode cX10_count 149 = .ok (.getfield 12, 3) := by decide +kernel
theorem dX10_count_152 : decode cX10_count 152 = .ok (.getfield 40, 3) := by decide +kernel
theorem dX10_count_155 : decode cX10_count 155 = .ok (.ireturn, 1) := by decide +kernel
theorem dX10_count_156 : decode cX10_count 156 = .ok (.aload_n 0, 1) := by decide +kernel
theorem dX10_count_157 : decode cX10_count 157 = .ok (.iload_n 1, 1) := by decide +kernel
theorem dX10_count_158 : decode cX10_count 158 = .ok (.bipush 11, 2) := by decide +kernel
theorem dX10_count_160 : decode cX10_count 160 = .ok (.isub, 1) := by decide +kernel
theorem dX10_count_161 : decode cX10_count 161 = .ok (.iload_n 1, 1) := by decide +kernel
theorem dX10_count_162 : decode cX10_count 162 = .ok (.invokevirtual 265, 3) := by decide +kernel
theorem dX10_count_165 : decode cX10_count 165 = .ok (.ireturn, 1) := by decide +kernel
theorem dX10_digest_0 : decode cX10_digest 0 = .ok (.ldc2_w 268, 3) := by decide +kernel
theorem dX10_digest_3 : decode cX10_digest 3 = .ok (.lstore_n 1, 1) := by decide +kernel
theorem dX10_digest_4 : decode cX10_digest 4 = .ok (.iconst 0, 1) := by decide +kernel
theorem dX10_digest_5 : decode cX10_digest 5 = .ok (.istore_n 3, 1) := by decide +kernel
theorem dX10_digest_6 : decode cX10_digest 6 = .ok (.iload_n 3, 1) := by decide +kernel
theorem dX10_digest_7 : decode cX10_digest 7 = .ok (.bipush 16, 2) := by decide +kernel
theorem dX10_digest_9 : decode cX10_digest 9 = .ok (.if_icmp .ge 19, 3) := by decide +kernel
theorem dX10_digest_12 : decode cX10_digest 12 = .ok (.lload_n 1, 1) := by decide +kernel
theorem dX10_digest_13 : decode cX10_digest 13 = .ok (.aload_n 0, 1) := by decide +kernel
theorem dX10_digest_14 : decode cX10_digest 14 = .ok (.iload_n 3, 1) := by decide +kernel
theorem dX10_digest_15 : decode cX10_digest 15 = .ok (.invokevirtual 270, 3) := by decide +kernel
theorem dX10_digest_18 : decode cX10_digest 18 = .ok (.invokestatic 272, 3) := by decide +kernel
theorem dX10_digest_21 : decode cX10_digest 21 = .ok (.lstore_n 1, 1) := by decide +kernel
theorem dX10_digest_22 : decode cX10_digest 22 = .ok (.iinc 3 1, 3) := by decide +kernel
theorem dX10_digest_25 : decode cX10_digest 25 = .ok (.goto (-19), 3) := by decide +kernel
theorem dX10_digest_28 : decode cX10_digest 28 = .ok (.aload_n 0, 1) := by decide +kernel
theorem dX10_digest_29 : decode cX10_digest 29 = .ok (.lload_n 1, 1) := by decide +kernel
theorem dX10_digest_30 : decode cX10_digest 30 = .ok (.invokevirtual 276, 3) := by decide +kernel
theorem dX10_digest_33 : decode cX10_digest 33 = .ok (.lstore_n 1, 1) := by decide +kernel
theorem dX10_digest_34 : decode cX10_digest 34 = .ok (.aload_n 0, 1) := by decide +kernel
theorem dX10_digest_35 : decode cX10_digest 35 = .ok (.lload_n 1, 1) := by decide +kernel
theorem dX10_digest_36 : decode cX10_digest 36 = .ok (.invokevirtual 280, 3) := by decide +kernel
theorem dX10_digest_39 : decode cX10_digest 39 = .ok (.lstore_n 1, 1) := by decide +kernel
theorem dX10_digest_40 : decode cX10_digest 40 = .ok (.aload_n 0, 1) := by decide +kernel
theorem dX10_digest_41 : decode cX10_digest 41 = .ok (.lload_n 1, 1) := by decide +kernel
theorem dX10_digest_42 : decode cX10_digest 42 = .ok (.invokevirtual 283, 3) := by decide +kernel
theorem dX10_digest_45 : decode cX10_digest 45 = .ok (.lstore_n 1, 1) := by decide +kernel
theorem dX10_digest_46 : decode cX10_digest 46 = .ok (.aload_n 0, 1) := by decide +kernel
theorem dX10_digest_47 : decode cX10_digest 47 = .ok (.lload_n 1, 1) := by decide +kernel
theorem dX10_digest_48 : decode cX10_digest 48 = .ok (.invokevirtual 286, 3) := by decide +kernel
theorem dX10_digest_51 : decode cX10_digest 51 = .ok (.lstore_n 1, 1) := by decide +kernel
theorem dX10_digest_52 : decode cX10_digest 52 = .ok (.iconst 0, 1) := by decide +kernel
theorem dX10_digest_53 : decode cX10_digest 53 = .ok (.istore_n 3, 1) := by decide +kernel
theorem dX10_digest_54 : decode cX10_digest 54 = .ok (.iload_n 3, 1) := by decide +kernel
theorem dX10_digest_55 : decode cX10_digest 55 = .ok (.aload_n 0, 1) := by decide +kernel
theorem dX10_digest_56 : decode cX10_digest 56 = .ok (.getfield 33, 3) := by decide +kernel
theorem dX10_digest_59 : decode cX10_digest 59 = .ok (.getfield 96, 3) := by decide +kernel
theorem dX10_digest_62 : decode cX10_digest 62 = .ok (.if_icmp .ge 19, 3) := by decide +kernel
theorem dX10_digest_65 : decode cX10_digest 65 = .ok (.lload_n 1, 1) := by decide +kernel
theorem dX10_digest_66 : decode cX10_digest 66 = .ok (.aload_n 0, 1) := by decide +kernel
theorem dX10_digest_67 : decode cX10_digest 67 = .ok (.iload_n 3, 1) := by decide +kernel
theorem dX10_digest_68 : decode cX10_digest 68 = .ok (.invokevirtual 289, 3) := by decide +kernel
theorem dX10_digest_71 : decode cX10_digest 71 = .ok (.invokestatic 272, 3) := by decide +kernel
theorem dX10_digest_74 : decode cX10_digest 74 = .ok (.lstore_n 1, 1) := by decide +kernel
theorem dX10_digest_75 : decode cX10_digest 75 = .ok (.iinc 3 1, 3) := by decide +kernel
theorem dX10_digest_78 : decode cX10_digest 78 = .ok (.goto (-24), 3) := by decide +kernel
theorem dX10_digest_81 : decode cX10_digest 81 = .ok (.iconst 0, 1) := by decide +kernel
theorem dX10_digest_82 : decode cX10_digest 82 = .ok (.istore_n 3, 1) := by decide +kernel
theorem dX10_digest_83 : decode cX10_digest 83 = .ok (.iload_n 3, 1) := by decide +kernel
theorem dX10_digest_84 : decode cX10_digest 84 = .ok (.aload_n 0, 1) := by decide +kernel
theorem dX10_digest_85 : decode cX10_digest 85 = .ok (.getfield 12, 3) := by decide +kernel
theorem dX10_digest_88 : decode cX10_digest 88 = .ok (.getfield 40, 3) := by decide +kernel
theorem dX10_digest_91 : decode cX10_digest 91 = .ok (.if_icmp .ge 22, 3) := by decide +kernel
theorem dX10_digest_94 : decode cX10_digest 94 = .ok (.lload_n 1, 1) := by decide +kernel
theorem dX10_digest_95 : decode cX10_digest 95 = .ok (.aload_n 0, 1) := by decide +kernel
theorem dX10_digest_96 : decode cX10_digest 96 = .ok (.getfield 12, 3) := by decide +kernel
theorem dX10_digest_99 : decode cX10_digest 99 = .ok (.iload_n 3, 1) := by decide +kernel
theorem dX10_digest_100 : decode cX10_digest 100 = .ok (.invokevirtual 292, 3) := by decide +kernel
theorem dX10_digest_103 : decode cX10_digest 103 = .ok (.invokestatic 272, 3) := by decide +kernel
theorem dX10_digest_106 : decode cX10_digest 106 = .ok (.lstore_n 1, 1) := by decide +kernel
theorem dX10_digest_107 : decode cX10_digest 107 = .ok (.iinc 3 1, 3) := by decide +kernel
theorem dX10_digest_110 : decode cX10_digest 110 = .ok (.goto (-27), 3) := by decide +kernel
theorem dX10_digest_113 : decode cX10_digest 113 = .ok (.lload_n 1, 1) := by decide +kernel
theorem dX10_digest_114 : decode cX10_digest 114 = .ok (.lreturn, 1) := by decide +kernel
theorem dX10_layOut_0 : decode cX10_layOut 0 = .ok (.aload_n 0, 1) := by decide +kernel
theorem dX10_layOut_1 : decode cX10_layOut 1 = .ok (.getfield 33, 3) := by decide +kernel
theorem dX10_layOut_4 : decode cX10_layOut 4 = .ok (.aload_n 0, 1) := by decide +kernel
theorem dX10_layOut_5 : decode cX10_layOut 5 = .ok (.getfield 19, 3) := by decide +kernel
theorem dX10_layOut_8 : decode cX10_layOut 8 = .ok (.aload_n 0, 1) := by decide +kernel
theorem dX10_layOut_9 : decode cX10_layOut 9 = .ok (.getfield 19, 3) := by decide +kernel
theorem dX10_layOut_12 : decode cX10_layOut 12 = .ok (.iconst 0, 1) := by decide +kernel
theorem dX10_layOut_13 : decode cX10_layOut 13 = .ok (.invokevirtual 155, 3) := by decide +kernel
theorem dX10_layOut_16 : decode cX10_layOut 16 = .ok (.invokevirtual 237, 3) := by decide +kernel
theorem dX10_layOut_19 : decode cX10_layOut 19 = .ok (.aload_n 0, 1) := by decide +kernel
theorem dX10_layOut_20 : decode cX10_layOut 20 = .ok (.getfield 33, 3) := by decide +kernel
theorem dX10_layOut_23 : decode cX10_layOut 23 = .ok (.aload_n 0, 1) := by decide +kernel
theorem dX10_layOut_24 : decode cX10_layOut 24 = .ok (.getfield 19, 3) := by decide +kernel
theorem dX10_layOut_27 : decode cX10_layOut 27 = .ok (.iconst 1, 1) := by decide +kernel
theorem dX10_layOut_28 : decode cX10_layOut 28 = .ok (.invokevirtual 155, 3) := by decide +kernel
theorem dX10_layOut_31 : decode cX10_layOut 31 = .ok (.aload_n 0, 1) := by decide +kernel
theorem dX10_layOut_32 : decode cX10_layOut 32 = .ok (.getfield 19, 3) := by decide +kernel
theorem dX10_layOut_35 : decode cX10_layOut 35 = .ok (.iconst 4, 1) := by decide +kernel
theorem dX10_layOut_36 : decode cX10_layOut 36 = .ok (.invokevirtual 155, 3) := by decide +kernel
theorem dX10_layOut_39 : decode cX10_layOut 39 = .ok (.invokevirtual 241, 3) := by decide +kernel
theorem dX10_layOut_42 : decode cX10_layOut 42 = .ok (.return_, 1) := by decide +kernel
theorem dX10_numberWithWidth_0 : decode cX10_numberWithWidth 0 = .ok (.aload_n 0, 1) := by decide +kernel
theorem dX10_numberWithWidth_1 : decode cX10_numberWithWidth 1 = .ok (.getfield 37, 3) := by decide +kernel
theorem dX10_numberWithWidth_4 : decode cX10_numberWithWidth 4 = .ok (.aload_n 0, 1) := by decide +kernel
theorem dX10_numberWithWidth_5 : decode cX10_numberWithWidth 5 = .ok (.getfield 19, 3) := by decide +kernel
theorem dX10_numberWithWidth_8 : decode cX10_numberWithWidth 8 = .ok (.iload_n 1, 1) := by decide +kernel
theorem dX10_numberWithWidth_9 : decode cX10_numberWithWidth 9 = .ok (.invokevirtual 237, 3) := by decide +kernel
theorem dX10_numberWithWidth_12 : decode cX10_numberWithWidth 12 = .ok (.iload_n 2, 1) := by decide +kernel
theorem dX10_numberWithWidth_13 : decode cX10_numberWithWidth 13 = .ok (.iconst 1, 1) := by decide +kernel
theorem dX10_numberWithWidth_14 : decode cX10_numberWithWidth 14 = .ok (.if_icmp .ne 11, 3) := by decide +kernel
theorem dX10_numberWithWidth_17 : decode cX10_numberWithWidth 17 = .ok (.aload_n 0, 1) := by decide +kernel
theorem dX10_numberWithWidth_18 : decode cX10_numberWithWidth 18 = .ok (.getfield 37, 3) := by decide +kernel
theorem dX10_numberWithWidth_21 : decode cX10_numberWithWidth 21 = .ok (.invokevirtual 250, 3) := by decide +kernel
theorem dX10_numberWithWidth_24 : decode cX10_numberWithWidth 24 = .ok (.ireturn, 1) := by decide +kernel
theorem dX10_numberWithWidth_25 : decode cX10_numberWithWidth 25 = .ok (.iload_n 2, 1) := by decide +kernel
theorem dX10_numberWithWidth_26 : decode cX10_numberWithWidth 26 = .ok (.iconst 2, 1) := by decide +kernel
theorem dX10_numberWithWidth_27 : decode cX10_numberWithWidth 27 = .ok (.if_icmp .ne 11, 3) := by decide +kernel
theorem dX10_numberWithWidth_30 : decode cX10_numberWithWidth 30 = .ok (.aload_n 0, 1) := by decide +kernel
theorem dX10_numberWithWidth_31 : decode cX10_numberWithWidth 31 = .ok (.getfield 37, 3) := by decide +kernel
theorem dX10_numberWithWidth_34 : decode cX10_numberWithWidth 34 = .ok (.invokevirtual 253, 3) := by decide +kernel
theorem dX10_numberWithWidth_37 : decode cX10_numberWithWidth 37 = .ok (.ireturn, 1) := by decide +kernel
theorem dX10_numberWithWidth_38 : decode cX10_numberWithWidth 38 = .ok (.aload_n 0, 1) := by decide +kernel
theorem dX10_numberWithWidth_39 : decode cX10_numberWithWidth 39 = .ok (.getfield 37, 3) := by decide +kernel
theorem dX10_numberWithWidth_42 : decode cX10_numberWithWidth 42 = .ok (.aload_n 0, 1) := by decide +kernel
theorem dX10_numberWithWidth_43 : decode cX10_numberWithWidth 43 = .ok (.getfield 19, 3) := by decide +kernel
theorem dX10_numberWithWidth_46 : decode cX10_numberWithWidth 46 = .ok (.iconst 1, 1) := by decide +kernel
theorem dX10_numberWithWidth_47 : decode cX10_numberWithWidth 47 = .ok (.invokevirtual 155, 3) := by decide +kernel
theorem dX10_numberWithWidth_50 : decode cX10_numberWithWidth 50 = .ok (.aload_n 0, 1) := by decide +kernel
theorem dX10_numberWithWidth_51 : decode cX10_numberWithWidth 51 = .ok (.getfield 19, 3) := by decide +kernel
theorem dX10_numberWithWidth_54 : decode cX10_numberWithWidth 54 = .ok (.iconst 4, 1) := by decide +kernel
theorem dX10_numberWithWidth_55 : decode cX10_numberWithWidth 55 = .ok (.invokevirtual 155, 3) := by decide +kernel
theorem dX10_numberWithWidth_58 : decode cX10_numberWithWidth 58 = .ok (.invokevirtual 241, 3) := by decide +kernel
theorem dX10_numberWithWidth_61 : decode cX10_numberWithWidth 61 = .ok (.aload_n 0, 1) := by decide +kernel
theorem dX10_numberWithWidth_62 : decode cX10_numberWithWidth 62 = .ok (.getfield 37, 3) := by decide +kernel
theorem dX10_numberWithWidth_65 : decode cX10_numberWithWidth 65 = .ok (.getfield 244, 3) := by decide +kernel
theorem dX10_numberWithWidth_68 : decode cX10_numberWithWidth 68 = .ok (.ireturn, 1) := by decide +kernel
theorem dX10_countedSetting_0 : decode cX10_countedSetting 0 = .ok (.iload_n 2, 1) := by decide +kernel
theorem dX10_countedSetting_1 : decode cX10_countedSetting 1 = .ok (.bipush 11, 2) := by decide +kernel
theorem dX10_countedSetting_3 : decode cX10_countedSetting 3 = .ok (.if_icmp .lt 9, 3) := by decide +kernel
theorem dX10_countedSetting_6 : decode cX10_countedSetting 6 = .ok (.iload_n 2, 1) := by decide +kernel
theorem dX10_countedSetting_7 : decode cX10_countedSetting 7 = .ok (.bipush 16, 2) := by decide +kernel
theorem dX10_countedSetting_9 : decode cX10_countedSetting 9 = .ok (.if_icmp .lt 8, 3) := by decide +kernel
theorem dX10_countedSetting_12 : decode cX10_countedSetting 12 = .ok (.bipush (-2), 2) := by decide +kernel
theorem dX10_countedSetting_14 : decode cX10_countedSetting 14 = .ok (.goto 11, 3) := by decide +kernel
theorem dX10_countedSetting_17 : decode cX10_countedSetting 17 = .ok (.aload_n 0, 1) := by decide +kernel
theorem dX10_countedSetting_18 : decode cX10_countedSetting 18 = .ok (.getfield 19, 3) := by decide +kernel
theorem dX10_countedSetting_21 : decode cX10_countedSetting 21 = .ok (.iload_n 1, 1) := by decide +kernel
theorem dX10_countedSetting_22 : decode cX10_countedSetting 22 = .ok (.invokevirtual 155, 3) := by decide +kernel
theorem dX10_countedSetting_25 : decode cX10_countedSetting 25 = .ok (.ireturn, 1) := by decide +kernel
theorem dX10_byteInRow_0 : decode cX10_byteInRow 0 = .ok (.aload_n 1, 1) := by decide +kernel
theorem dX10_byteInRow_1 : decode cX10_byteInRow 1 = .ok (.ifnull 19, 3) := by decide +kernel
theorem dX10_byteInRow_4 : decode cX10_byteInRow 4 = .ok (.iload_n 2, 1) := by decide +kernel
theorem dX10_byteInRow_5 : decode cX10_byteInRow 5 = .ok (.aload_n 1, 1) := by decide +kernel
theorem dX10_byteInRow_6 : decode cX10_byteInRow 6 = .ok (.getfield 184, 3) := by decide +kernel
theorem dX10_byteInRow_9 : decode cX10_byteInRow 9 = .ok (.if_icmp .lt 11, 3) := by decide +kernel
theorem dX10_byteInRow_12 : decode cX10_byteInRow 12 = .ok (.iload_n 2, 1) := by decide +kernel
theorem dX10_byteInRow_13 : decode cX10_byteInRow 13 = .ok (.aload_n 1, 1) := by decide +kernel
theorem dX10_byteInRow_14 : decode cX10_byteInRow 14 = .ok (.invokevirtual 194, 3) := by decide +kernel
theorem dX10_byteInRow_17 : decode cX10_byteInRow 17 = .ok (.if_icmp .lt 6, 3) := by decide +kernel
theorem dX10_byteInRow_20 : decode cX10_byteInRow 20 = .ok (.bipush 32, 2) := by decide +kernel
theorem dX10_byteInRow_22 : decode cX10_byteInRow 22 = .ok (.ireturn, 1) := by decide +kernel
theorem dX10_byteInRow_23 : decode cX10_byteInRow 23 = .ok (.aload_n 0, 1) := by decide +kernel
theorem dX10_byteInRow_24 : decode cX10_byteInRow 24 = .ok (.getfield 19, 3) := by decide +kernel
theorem dX10_byteInRow_27 : decode cX10_byteInRow 27 = .ok (.aload_n 1, 1) := by decide +kernel
theorem dX10_byteInRow_28 : decode cX10_byteInRow 28 = .ok (.getfield 170, 3) := by decide +kernel
theorem dX10_byteInRow_31 : decode cX10_byteInRow 31 = .ok (.invokevirtual 73, 3) := by decide +kernel
theorem dX10_byteInRow_34 : decode cX10_byteInRow 34 = .ok (.astore_n 3, 1) := by decide +kernel
theorem dX10_byteInRow_35 : decode cX10_byteInRow 35 = .ok (.aload_n 3, 1) := by decide +kernel
theorem dX10_byteInRow_36 : decode cX10_byteInRow 36 = .ok (.ifnonnull 8, 3) := by decide +kernel
theorem dX10_byteInRow_39 : decode cX10_byteInRow 39 = .ok (.bipush 32, 2) := by decide +kernel
theorem dX10_byteInRow_41 : decode cX10_byteInRow 41 = .ok (.goto 21, 3) := by decide +kernel
theorem dX10_byteInRow_44 : decode cX10_byteInRow 44 = .ok (.aload_n 3, 1) := by decide +kernel
theorem dX10_byteInRow_45 : decode cX10_byteInRow 45 = .ok (.getfield 80, 3) := by decide +kernel
theorem dX10_byteInRow_48 : decode cX10_byteInRow 48 = .ok (.aload_n 1, 1) := by decide +kernel
theorem dX10_byteInRow_49 : decode cX10_byteInRow 49 = .ok (.getfield 293, 3) := by decide +kernel
theorem dX10_byteInRow_52 : decode cX10_byteInRow 52 = .ok (.iload_n 2, 1) := by decide +kernel
theorem dX10_byteInRow_53 : decode cX10_byteInRow 53 = .ok (.iadd, 1) := by decide +kernel
theorem dX10_byteInRow_54 : decode cX10_byteInRow 54 = .ok (.aload_n 1, 1) := by decide +kernel
theorem dX10_byteInRow_55 : decode cX10_byteInRow 55 = .ok (.getfield 184, 3) := by decide +kernel
theorem dX10_byteInRow_58 : decode cX10_byteInRow 58 = .ok (.isub, 1) := by decide +kernel
theorem dX10_byteInRow_59 : decode cX10_byteInRow 59 = .ok (.invokevirtual 140, 3) := by decide +kernel
theorem dX10_byteInRow_62 : decode cX10_byteInRow 62 = .ok (.ireturn, 1) := by decide +kernel
theorem dX10_withLines_0 : decode cX10_withLines 0 = .ok (.iconst 0, 1) := by decide +kernel
theorem dX10_withLines_1 : decode cX10_withLines 1 = .ok (.istore_n 3, 1) := by decide +kernel
theorem dX10_withLines_2 : decode cX10_withLines 2 = .ok (.iload_n 3, 1) := by decide +kernel
theorem dX10_withLines_3 : decode cX10_withLines 3 = .ok (.aload_n 0, 1) := by decide +kernel
theorem dX10_withLines_4 : decode cX10_withLines 4 = .ok (.getfield 19, 3) := by decide +kernel
theorem dX10_withLines_7 : decode cX10_withLines 7 = .ok (.getfield 55, 3) := by decide +kernel
theorem dX10_withLines_10 : decode cX10_withLines 10 = .ok (.if_icmp .ge 37, 3) := by decide +kernel
theorem dX10_withLines_13 : decode cX10_withLines 13 = .ok (.iconst 0, 1) := by decide +kernel
theorem dX10_withLines_14 : decode cX10_withLines 14 = .ok (.istore 4, 2) := by decide +kernel
theorem dX10_withLines_16 : decode cX10_withLines 16 = .ok (.iload 4, 2) := by decide +kernel
theorem dX10_withLines_18 : decode cX10_withLines 18 = .ok (.bipush 10, 2) := by decide +kernel
theorem dX10_withLines_20 : decode cX10_withLines 20 = .ok (.if_icmp .ge 21, 3) := by decide +kernel
theorem dX10_withLines_23 : decode cX10_withLines 23 = .ok (.lload_n 1, 1) := by decide +kernel
theorem dX10_withLines_24 : decode cX10_withLines 24 = .ok (.aload_n 0, 1) := by decide +kernel
theorem dX10_withLines_25 : decode cX10_withLines 25 = .ok (.iload_n 3, 1) := by decide +kernel
theorem dX10_withLines_26 : decode cX10_withLines 26 = .ok (.iload 4, 2) := by decide +kernel
theorem dX10_withLines_28 : decode cX10_withLines 28 = .ok (.invokevirtual 296, 3) := by decide +kernel
theorem dX10_withLines_31 : decode cX10_withLines 31 = .ok (.invokestatic 272, 3) := by decide +kernel
theorem dX10_withLines_34 : decode cX10_withLines 34 = .ok (.lstore_n 1, 1) := by decide +kernel
theorem dX10_withLines_35 : decode cX10_withLines 35 = .ok (.iinc 4 1, 3) := by decide +kernel
theorem dX10_withLines_38 : decode cX10_withLines 38 = .ok (.goto (-22), 3) := by decide +kernel
theorem dX10_withLines_41 : decode cX10_withLines 41 = .ok (.iinc 3 1, 3) := by decide +kernel
theorem dX10_withLines_44 : decode cX10_withLines 44 = .ok (.goto (-42), 3) := by decide +kernel
theorem dX10_withLines_47 : decode cX10_withLines 47 = .ok (.lload_n 1, 1) := by decide +kernel
theorem dX10_withLines_48 : decode cX10_withLines 48 = .ok (.lreturn, 1) := by decide +kernel
theorem dX10_withRows_0 : decode cX10_withRows 0 = .ok (.iconst 0, 1) := by decide +kernel
theorem dX10_withRows_1 : decode cX10_withRows 1 = .ok (.istore_n 3, 1) := by decide +kernel
theorem dX10_withRows_2 : decode cX10_withRows 2 = .ok (.iload_n 3, 1) := by decide +kernel
theorem dX10_withRows_3 : decode cX10_withRows 3 = .ok (.aload_n 0, 1) := by decide +kernel
theorem dX10_withRows_4 : decode cX10_withRows 4 = .ok (.getfield 33, 3) := by decide +kernel
theorem dX10_withRows_7 : decode cX10_withRows 7 = .ok (.getfield 247, 3) := by decide +kernel
theorem dX10_withRows_10 : decode cX10_withRows 10 = .ok (.if_icmp .ge 37, 3) := by decide +kernel
theorem dX10_withRows_13 : decode cX10_withRows 13 = .ok (.iconst 0, 1) := by decide +kernel
theorem dX10_withRows_14 : decode cX10_withRows 14 = .ok (.istore 4, 2) := by decide +kernel
theorem dX10_withRows_16 : decode cX10_withRows 16 = .ok (.iload 4, 2) := by decide +kernel
theorem dX10_withRows_18 : decode cX10_withRows 18 = .ok (.bipush 9, 2) := by decide +kernel
theorem dX10_withRows_20 : decode cX10_withRows 20 = .ok (.if_icmp .ge 21, 3) := by decide +kernel
theorem dX10_withRows_23 : decode cX10_withRows 23 = .ok (.lload_n 1, 1) := by decide +kernel
theorem dX10_withRows_24 : decode cX10_withRows 24 = .ok (.aload_n 0, 1) := by decide +kernel
theorem dX10_withRows_25 : decode cX10_withRows 25 = .ok (.iload_n 3, 1) := by decide +kernel
theorem dX10_withRows_26 : decode cX10_withRows 26 = .ok (.iload 4, 2) := by decide +kernel
theorem dX10_withRows_28 : decode cX10_withRows 28 = .ok (.invokevirtual 298, 3) := by decide +kernel
theorem dX10_withRows_31 : decode cX10_withRows 31 = .ok (.invokestatic 272, 3) := by decide +kernel
theorem dX10_withRows_34 : decode cX10_withRows 34 = .ok (.lstore_n 1, 1) := by decide +kernel
theorem dX10_withRows_35 : decode cX10_withRows 35 = .ok (.iinc 4 1, 3) := by decide +kernel
theorem dX10_withRows_38 : decode cX10_withRows 38 = .ok (.goto (-22), 3) := by decide +kernel
theorem dX10_withRows_41 : decode cX10_withRows 41 = .ok (.iinc 3 1, 3) := by decide +kernel
theorem dX10_withRows_44 : decode cX10_withRows 44 = .ok (.goto (-42), 3) := by decide +kernel
theorem dX10_withRows_47 : decode cX10_withRows 47 = .ok (.lload_n 1, 1) := by decide +kernel
theorem dX10_withRows_48 : decode cX10_withRows 48 = .ok (.lreturn, 1) := by decide +kernel
theorem dX10_withPages_0 : decode cX10_withPages 0 = .ok (.iconst 0, 1) := by decide +kernel
theorem dX10_withPages_1 : decode cX10_withPages 1 = .ok (.istore_n 3, 1) := by decide +kernel
theorem dX10_withPages_2 : decode cX10_withPages 2 = .ok (.iload_n 3, 1) := by decide +kernel
theorem dX10_withPages_3 : decode cX10_withPages 3 = .ok (.aload_n 0, 1) := by decide +kernel
theorem dX10_withPages_4 : decode cX10_withPages 4 = .ok (.getfield 33, 3) := by decide +kernel
theorem dX10_withPages_7 : decode cX10_withPages 7 = .ok (.getfield 244, 3) := by decide +kernel
theorem dX10_withPages_10 : decode cX10_withPages 10 = .ok (.if_icmp .ge 36, 3) := by decide +kernel
theorem dX10_withPages_13 : decode cX10_withPages 13 = .ok (.iconst 0, 1) := by decide +kernel
theorem dX10_withPages_14 : decode cX10_withPages 14 = .ok (.istore 4, 2) := by decide +kernel
theorem dX10_withPages_16 : decode cX10_withPages 16 = .ok (.iload 4, 2) := by decide +kernel
theorem dX10_withPages_18 : decode cX10_withPages 18 = .ok (.iconst 5, 1) := by decide +kernel
theorem dX10_withPages_19 : decode cX10_withPages 19 = .ok (.if_icmp .ge 21, 3) := by decide +kernel
theorem dX10_withPages_22 : decode cX10_withPages 22 = .ok (.lload_n 1, 1) := by decide +kernel
theorem dX10_withPages_23 : decode cX10_withPages 23 = .ok (.aload_n 0, 1) := by decide +kernel
theorem dX10_withPages_24 : decode cX10_withPages 24 = .ok (.iload_n 3, 1) := by decide +kernel
theorem dX10_withPages_25 : decode cX10_withPages 25 = .ok (.iload 4, 2) := by decide +kernel
theorem dX10_withPages_27 : decode cX10_withPages 27 = .ok (.invokevirtual 301, 3) := by decide +kernel
theorem dX10_withPages_30 : decode cX10_withPages 30 = .ok (.invokestatic 272, 3) := by decide +kernel
theorem dX10_withPages_33 : decode cX10_withPages 33 = .ok (.lstore_n 1, 1) := by decide +kernel
theorem dX10_withPages_34 : decode cX10_withPages 34 = .ok (.iinc 4 1, 3) := by decide +kernel
theorem dX10_withPages_37 : decode cX10_withPages 37 = .ok (.goto (-21), 3) := by decide +kernel
theorem dX10_withPages_40 : decode cX10_withPages 40 = .ok (.iinc 3 1, 3) := by decide +kernel
theorem dX10_withPages_43 : decode cX10_withPages 43 = .ok (.goto (-41), 3) := by decide +kernel
theorem dX10_withPages_46 : decode cX10_withPages 46 = .ok (.lload_n 1, 1) := by decide +kernel
theorem dX10_withPages_47 : decode cX10_withPages 47 = .ok (.lreturn, 1) := by decide +kernel
theorem dX10_withPlaces_0 : decode cX10_withPlaces 0 = .ok (.aload_n 0, 1) := by decide +kernel
theorem dX10_withPlaces_1 : decode cX10_withPlaces 1 = .ok (.getfield 19, 3) := by decide +kernel
theorem dX10_withPlaces_4 : decode cX10_withPlaces 4 = .ok (.iconst 0, 1) := by decide +kernel
theorem dX10_withPlaces_5 : decode cX10_withPlaces 5 = .ok (.invokevirtual 155, 3) := by decide +kernel
theorem dX10_withPlaces_8 : decode cX10_withPlaces 8 = .ok (.istore_n 3, 1) := by decide +kernel
theorem dX10_withPlaces_9 : decode cX10_withPlaces 9 = .ok (.iconst 0, 1) := by decide +kernel
theorem dX10_withPlaces_10 : decode cX10_withPlaces 10 = .ok (.istore 4, 2) := by decide +kernel
theorem dX10_withPlaces_12 : decode cX10_withPlaces 12 = .ok (.iload 4, 2) := by decide +kernel
theorem dX10_withPlaces_14 : decode cX10_withPlaces 14 = .ok (.aload_n 0, 1) := by decide +kernel
theorem dX10_withPlaces_15 : decode cX10_withPlaces 15 = .ok (.getfield 33, 3) := by decide +kernel
theorem dX10_withPlaces_18 : decode cX10_withPlaces 18 = .ok (.getfield 247, 3) := by decide +kernel
theorem dX10_withPlaces_21 : decode cX10_withPlaces 21 = .ok (.if_icmp .ge 48, 3) := by decide +kernel
theorem dX10_withPlaces_24 : decode cX10_withPlaces 24 = .ok (.aload_n 0, 1) := by decide +kernel
theorem dX10_withPlaces_25 : decode cX10_withPlaces 25 = .ok (.getfield 33, 3) := by decide +kernel
theorem dX10_withPlaces_28 : decode cX10_withPlaces 28 = .ok (.iload 4, 2) := by decide +kernel
theorem dX10_withPlaces_30 : decode cX10_withPlaces 30 = .ok (.invokevirtual 166, 3) := by decide +kernel
theorem dX10_withPlaces_33 : decode cX10_withPlaces 33 = .ok (.astore 5, 2) := by decide +kernel
theorem dX10_withPlaces_35 : decode cX10_withPlaces 35 = .ok (.iconst 0, 1) := by decide +kernel
theorem dX10_withPlaces_36 : decode cX10_withPlaces 36 = .ok (.istore 6, 2) := by decide +kernel
theorem dX10_withPlaces_38 : decode cX10_withPlaces 38 = .ok (.iload 6, 2) := by decide +kernel
theorem dX10_withPlaces_40 : decode cX10_withPlaces 40 = .ok (.iload_n 3, 1) := by decide +kernel
theorem dX10_withPlaces_41 : decode cX10_withPlaces 41 = .ok (.if_icmp .ge 22, 3) := by decide +kernel
theorem dX10_withPlaces_44 : decode cX10_withPlaces 44 = .ok (.lload_n 1, 1) := by decide +kernel
theorem dX10_withPlaces_45 : decode cX10_withPlaces 45 = .ok (.aload_n 0, 1) := by decide +kernel
theorem dX10_withPlaces_46 : decode cX10_withPlaces 46 = .ok (.aload 5, 2) := by decide +kernel
theorem dX10_withPlaces_48 : decode cX10_withPlaces 48 = .ok (.iload 6, 2) := by decide +kernel
theorem dX10_withPlaces_50 : decode cX10_withPlaces 50 = .ok (.invokevirtual 205, 3) := by decide +kernel
theorem dX10_withPlaces_53 : decode cX10_withPlaces 53 = .ok (.invokestatic 272, 3) := by decide +kernel
theorem dX10_withPlaces_56 : decode cX10_withPlaces 56 = .ok (.lstore_n 1, 1) := by decide +kernel
theorem dX10_withPlaces_57 : decode cX10_withPlaces 57 = .ok (.iinc 6 1, 3) := by decide +kernel
theorem dX10_withPlaces_60 : decode cX10_withPlaces 60 = .ok (.goto (-22), 3) := by decide +kernel
theorem dX10_withPlaces_63 : decode cX10_withPlaces 63 = .ok (.iinc 4 1, 3) := by decide +kernel
theorem dX10_withPlaces_66 : decode cX10_withPlaces 66 = .ok (.goto (-54), 3) := by decide +kernel
theorem dX10_withPlaces_69 : decode cX10_withPlaces 69 = .ok (.lload_n 1, 1) := by decide +kernel
theorem dX10_withPlaces_70 : decode cX10_withPlaces 70 = .ok (.lreturn, 1) := by decide +kernel
theorem dX10_mixed_0 : decode cX10_mixed 0 = .ok (.ldc2_w 303, 3) := by decide +kernel
theorem dX10_mixed_3 : decode cX10_mixed 3 = .ok (.lload_n 0, 1) := by decide +kernel
theorem dX10_mixed_4 : decode cX10_mixed 4 = .ok (.lmul, 1) := by decide +kernel
theorem dX10_mixed_5 : decode cX10_mixed 5 = .ok (.iload_n 2, 1) := by decide +kernel
theorem dX10_mixed_6 : decode cX10_mixed 6 = .ok (.i2l, 1) := by decide +kernel
theorem dX10_mixed_7 : decode cX10_mixed 7 = .ok (.ladd, 1) := by decide +kernel
theorem dX10_mixed_8 : decode cX10_mixed 8 = .ok (.lreturn, 1) := by decide +kernel
theorem dX10_oneIf_0 : decode cX10_oneIf 0 = .ok (.iload_n 0, 1) := by decide +kernel
theorem dX10_oneIf_1 : decode cX10_oneIf 1 = .ok (.ifCond .eq 7, 3) := by decide +kernel
theorem dX10_oneIf_4 : decode cX10_oneIf 4 = .ok (.iconst 1, 1) := by decide +kernel
theorem dX10_oneIf_5 : decode cX10_oneIf 5 = .ok (.goto 4, 3) := by decide +kernel
theorem dX10_oneIf_8 : decode cX10_oneIf 8 = .ok (.iconst 0, 1) := by decide +kernel
theorem dX10_oneIf_9 : decode cX10_oneIf 9 = .ok (.ireturn, 1) := by decide +kernel
theorem dX10_element_0 : decode cX10_element 0 = .ok (.aload_n 0, 1) := by decide +kernel
theorem dX10_element_1 : decode cX10_element 1 = .ok (.ifnull 13, 3) := by decide +kernel
theorem dX10_element_4 : decode cX10_element 4 = .ok (.iload_n 1, 1) := by decide +kernel
theorem dX10_element_5 : decode cX10_element 5 = .ok (.ifCond .lt 9, 3) := by decide +kernel
theorem dX10_element_8 : decode cX10_element 8 = .ok (.iload_n 1, 1) := by decide +kernel
theorem dX10_element_9 : decode cX10_element 9 = .ok (.aload_n 0, 1) := by decide +kernel
theorem dX10_element_10 : decode cX10_element 10 = .ok (.arraylength, 1) := by decide +kernel
theorem dX10_element_11 : decode cX10_element 11 = .ok (.if_icmp .lt 7, 3) := by decide +kernel
theorem dX10_element_14 : decode cX10_element 14 = .ok (.iconst 0, 1) := by decide +kernel
theorem dX10_element_15 : decode cX10_element 15 = .ok (.goto 6, 3) := by decide +kernel
theorem dX10_element_18 : decode cX10_element 18 = .ok (.aload_n 0, 1) := by decide +kernel
theorem dX10_element_19 : decode cX10_element 19 = .ok (.iload_n 1, 1) := by decide +kernel
theorem dX10_element_20 : decode cX10_element 20 = .ok (.iaload, 1) := by decide +kernel
theorem dX10_element_21 : decode cX10_element 21 = .ok (.ireturn, 1) := by decide +kernel
theorem dX10_isLetter_0 : decode cX10_isLetter 0 = .ok (.iload_n 0, 1) := by decide +kernel
theorem dX10_isLetter_1 : decode cX10_isLetter 1 = .ok (.bipush 97, 2) := by decide +kernel
theorem dX10_isLetter_3 : decode cX10_isLetter 3 = .ok (.if_icmp .lt 13, 3) := by decide +kernel
theorem dX10_isLetter_6 : decode cX10_isLetter 6 = .ok (.iload_n 0, 1) := by decide +kernel
theorem dX10_isLetter_7 : decode cX10_isLetter 7 = .ok (.bipush 122, 2) := by decide +kernel
theorem dX10_isLetter_9 : decode cX10_isLetter 9 = .ok (.if_icmp .gt 7, 3) := by decide +kernel
theorem dX10_isLetter_12 : decode cX10_isLetter 12 = .ok (.iconst 1, 1) := by decide +kernel
theorem dX10_isLetter_13 : decode cX10_isLetter 13 = .ok (.goto 4, 3) := by decide +kernel
theorem dX10_isLetter_16 : decode cX10_isLetter 16 = .ok (.iconst 0, 1) := by decide +kernel
theorem dX10_isLetter_17 : decode cX10_isLetter 17 = .ok (.ireturn, 1) := by decide +kernel
theorem dX10_shapeName_0 : decode cX10_shapeName 0 = .ok (.iload_n 0, 1) := by decide +kernel
theorem dX10_shapeName_1 : decode cX10_shapeName 1 = .ok (.tableswitch 47 0 3 #[31, 35, 39, 43], 31) := by decide +kernel
theorem dX10_shapeName_32 : decode cX10_shapeName 32 = .ok (.ldc_w 305, 3) := by decide +kernel
theorem dX10_shapeName_35 : decode cX10_shapeName 35 = .ok (.areturn, 1) := by decide +kernel
theorem dX10_shapeName_36 : decode cX10_shapeName 36 = .ok (.ldc_w 307, 3) := by decide +kernel
theorem dX10_shapeName_39 : decode cX10_shapeName 39 = .ok (.areturn, 1) := by decide +kernel
theorem dX10_shapeName_40 : decode cX10_shapeName 40 = .ok (.ldc_w 309, 3) := by decide +kernel
theorem dX10_shapeName_43 : decode cX10_shapeName 43 = .ok (.areturn, 1) := by decide +kernel
theorem dX10_shapeName_44 : decode cX10_shapeName 44 = .ok (.ldc_w 311, 3) := by decide +kernel
theorem dX10_shapeName_47 : decode cX10_shapeName 47 = .ok (.areturn, 1) := by decide +kernel
theorem dX10_shapeName_48 : decode cX10_shapeName 48 = .ok (.ldc_w 313, 3) := by decide +kernel
theorem dX10_shapeName_51 : decode cX10_shapeName 51 = .ok (.areturn, 1) := by decide +kernel
theorem dX10_aim_0 : decode cX10_aim 0 = .ok (.iload_n 3, 1) := by decide +kernel
theorem dX10_aim_1 : decode cX10_aim 1 = .ok (.iconst 1, 1) := by decide +kernel
theorem dX10_aim_2 : decode cX10_aim 2 = .ok (.if_icmp .ge 5, 3) := by decide +kernel
theorem dX10_aim_5 : decode cX10_aim 5 = .ok (.iconst 0, 1) := by decide +kernel
theorem dX10_aim_6 : decode cX10_aim 6 = .ok (.ireturn, 1) := by decide +kernel
theorem dX10_aim_7 : decode cX10_aim 7 = .ok (.iload_n 0, 1) := by decide +kernel
theorem dX10_aim_8 : decode cX10_aim 8 = .ok (.tableswitch 72 1 3 #[28, 36, 58], 28) := by decide +kernel
theorem dX10_aim_36 : decode cX10_aim 36 = .ok (.iload_n 1, 1) := by decide +kernel
theorem dX10_aim_37 : decode cX10_aim 37 = .ok (.iload_n 2, 1) := by decide +kernel
theorem dX10_aim_38 : decode cX10_aim 38 = .ok (.iconst 1, 1) := by decide +kernel
theorem dX10_aim_39 : decode cX10_aim 39 = .ok (.iadd, 1) := by decide +kernel
theorem dX10_aim_40 : decode cX10_aim 40 = .ok (.imul, 1) := by decide +kernel
theorem dX10_aim_41 : decode cX10_aim 41 = .ok (.iload_n 3, 1) := by decide +kernel
theorem dX10_aim_42 : decode cX10_aim 42 = .ok (.idiv, 1) := by decide +kernel
theorem dX10_aim_43 : decode cX10_aim 43 = .ok (.ireturn, 1) := by decide +kernel
theorem dX10_aim_44 : decode cX10_aim 44 = .ok (.iload_n 1, 1) := by decide +kernel
theorem dX10_aim_45 : decode cX10_aim 45 = .ok (.iconst 2, 1) := by decide +kernel
theorem dX10_aim_46 : decode cX10_aim 46 = .ok (.iload_n 1, 1) := by decide +kernel
theorem dX10_aim_47 : decode cX10_aim 47 = .ok (.imul, 1) := by decide +kernel
theorem dX10_aim_48 : decode cX10_aim 48 = .ok (.iload_n 2, 1) := by decide +kernel
theorem dX10_aim_49 : decode cX10_aim 49 = .ok (.iconst 1, 1) := by decide +kernel
theorem dX10_aim_50 : decode cX10_aim 50 = .ok (.iadd, 1) := by decide +kernel
theorem dX10_aim_51 : decode cX10_aim 51 = .ok (.iload_n 3, 1) := by decide +kernel
theorem dX10_aim_52 : decode cX10_aim 52 = .ok (.iload_n 2, 1) := by decide +kernel
theorem dX10_aim_53 : decode cX10_aim 53 = .ok (.isub, 1) := by decide +kernel
theorem dX10_aim_54 : decode cX10_aim 54 = .ok (.invokestatic 315, 3) := by decide +kernel
theorem dX10_aim_57 : decode cX10_aim 57 = .ok (.imul, 1) := by decide +kernel
theorem dX10_aim_58 : decode cX10_aim 58 = .ok (.iload_n 3, 1) := by decide +kernel
theorem dX10_aim_59 : decode cX10_aim 59 = .ok (.iconst 1, 1) := by decide +kernel
theorem dX10_aim_60 : decode cX10_aim 60 = .ok (.iadd, 1) := by decide +kernel
theorem dX10_aim_61 : decode cX10_aim 61 = .ok (.idiv, 1) := by decide +kernel
theorem dX10_aim_62 : decode cX10_aim 62 = .ok (.invokestatic 315, 3) := by decide +kernel
theorem dX10_aim_65 : decode cX10_aim 65 = .ok (.ireturn, 1) := by decide +kernel
theorem dX10_aim_66 : decode cX10_aim 66 = .ok (.iload_n 1, 1) := by decide +kernel
theorem dX10_aim_67 : decode cX10_aim 67 = .ok (.iload_n 2, 1) := by decide +kernel
theorem dX10_aim_68 : decode cX10_aim 68 = .ok (.iconst 1, 1) := by decide +kernel
theorem dX10_aim_69 : decode cX10_aim 69 = .ok (.iadd, 1) := by decide +kernel
theorem dX10_aim_70 : decode cX10_aim 70 = .ok (.iload_n 3, 1) := by decide +kernel
theorem dX10_aim_71 : decode cX10_aim 71 = .ok (.iload_n 2, 1) := by decide +kernel
theorem dX10_aim_72 : decode cX10_aim 72 = .ok (.isub, 1) := by decide +kernel
theorem dX10_aim_73 : decode cX10_aim 73 = .ok (.invokestatic 320, 3) := by decide +kernel
theorem dX10_aim_76 : decode cX10_aim 76 = .ok (.imul, 1) := by decide +kernel
theorem dX10_aim_77 : decode cX10_aim 77 = .ok (.iload_n 3, 1) := by decide +kernel
theorem dX10_aim_78 : decode cX10_aim 78 = .ok (.idiv, 1) := by decide +kernel
theorem dX10_aim_79 : decode cX10_aim 79 = .ok (.ireturn, 1) := by decide +kernel
theorem dX10_aim_80 : decode cX10_aim 80 = .ok (.iload_n 1, 1) := by decide +kernel
theorem dX10_aim_81 : decode cX10_aim 81 = .ok (.ireturn, 1) := by decide +kernel
theorem dX11_init_0 : decode cX11_init 0 = .ok (.aload_n 0, 1) := by decide +kernel
theorem dX11_init_1 : decode cX11_init 1 = .ok (.invokespecial 1, 3) := by decide +kernel
theorem dX11_init_4 : decode cX11_init 4 = .ok (.aload_n 0, 1) := by decide +kernel
theorem dX11_init_5 : decode cX11_init 5 = .ok (.sipush 2046, 3) := by decide +kernel
theorem dX11_init_8 : decode cX11_init 8 = .ok (.newarray .int, 2) := by decide +kernel
theorem dX11_init_10 : decode cX11_init 10 = .ok (.putfield 7, 3) := by decide +kernel
theorem dX11_init_13 : decode cX11_init 13 = .ok (.aload_n 0, 1) := by decide +kernel
theorem dX11_init_14 : decode cX11_init 14 = .ok (.sipush 16368, 3) := by decide +kernel
theorem dX11_init_17 : decode cX11_init 17 = .ok (.newarray .int, 2) := by decide +kernel
theorem dX11_init_19 : decode cX11_init 19 = .ok (.putfield 13, 3) := by decide +kernel
theorem dX11_init_22 : decode cX11_init 22 = .ok (.aload_n 0, 1) := by decide +kernel
theorem dX11_init_23 : decode cX11_init 23 = .ok (.bipush 80, 2) := by decide +kernel
theorem dX11_init_25 : decode cX11_init 25 = .ok (.newarray .int, 2) := by decide +kernel
theorem dX11_init_27 : decode cX11_init 27 = .ok (.putfield 16, 3) := by decide +kernel
theorem dX11_init_30 : decode cX11_init 30 = .ok (.aload_n 0, 1) := by decide +kernel
theorem dX11_init_31 : decode cX11_init 31 = .ok (.bipush 85, 2) := by decide +kernel
theorem dX11_init_33 : decode cX11_init 33 = .ok (.newarray .int, 2) := by decide +kernel
theorem dX11_init_35 : decode cX11_init 35 = .ok (.putfield 19, 3) := by decide +kernel
theorem dX11_init_38 : decode cX11_init 38 = .ok (.aload_n 0, 1) := by decide +kernel
theorem dX11_init_39 : decode cX11_init 39 = .ok (.sipush 960, 3) := by decide +kernel
theorem dX11_init_42 : decode cX11_init 42 = .ok (.newarray .int, 2) := by decide +kernel
theorem dX11_init_44 : decode cX11_init 44 = .ok (.putfield 22, 3) := by decide +kernel
theorem dX11_init_47 : decode cX11_init 47 = .ok (.aload_n 0, 1) := by decide +kernel
theorem dX11_init_48 : decode cX11_init 48 = .ok (.sipush 960, 3) := by decide +kernel
theorem dX11_init_51 : decode cX11_init 51 = .ok (.newarray .int, 2) := by decide +kernel
theorem dX11_init_53 : decode cX11_init 53 = .ok (.putfield 25, 3) := by decide +kernel
theorem dX11_init_56 : decode cX11_init 56 = .ok (.aload_n 0, 1) := by decide +kernel
theorem dX11_init_57 : decode cX11_init 57 = .ok (.sipush 960, 3) := by decide +kernel
theorem dX11_init_60 : decode cX11_init 60 = .ok (.newarray .int, 2) := by decide +kernel
theorem dX11_init_62 : decode cX11_init 62 = .ok (.putfield 28, 3) := by decide +kernel
theorem dX11_init_65 : decode cX11_init 65 = .ok (.aload_n 0, 1) := by decide +kernel
theorem dX11_init_66 : decode cX11_init 66 = .ok (.sipush 960, 3) := by decide +kernel
theorem dX11_init_69 : decode cX11_init 69 = .ok (.newarray .int, 2) := by decide +kernel
theorem dX11_init_71 : decode cX11_init 71 = .ok (.putfield 31, 3) := by decide +kernel
theorem dX11_init_74 : decode cX11_init 74 = .ok (.aload_n 0, 1) := by decide +kernel
theorem dX11_init_75 : decode cX11_init 75 = .ok (.sipush 960, 3) := by decide +kernel
theorem dX11_init_78 : decode cX11_init 78 = .ok (.newarray .int, 2) := by decide +kernel
theorem dX11_init_80 : decode cX11_init 80 = .ok (.putfield 34, 3) := by decide +kernel
theorem dX11_init_83 : decode cX11_init 83 = .ok (.aload_n 0, 1) := by decide +kernel
theorem dX11_init_84 : decode cX11_init 84 = .ok (.sipush 960, 3) := by decide +kernel
theorem dX11_init_87 : decode cX11_init 87 = .ok (.newarray .int, 2) := by decide +kernel
theorem dX11_init_89 : decode cX11_init 89 = .ok (.putfield 37, 3) := by decide +kernel
theorem dX11_init_92 : decode cX11_init 92 = .ok (.aload_n 0, 1) := by decide +kernel
theorem dX11_init_93 : decode cX11_init 93 = .ok (.sipush 960, 3) := by decide +kernel
theorem dX11_init_96 : decode cX11_init 96 = .ok (.newarray .int, 2) := by decide +kernel
theorem dX11_init_98 : decode cX11_init 98 = .ok (.putfield 40, 3) := by decide +kernel
theorem dX11_init_101 : decode cX11_init 101 = .ok (.aload_n 0, 1) := by decide +kernel
theorem dX11_init_102 : decode cX11_init 102 = .ok (.sipush 960, 3) := by decide +kernel
theorem dX11_init_105 : decode cX11_init 105 = .ok (.newarray .int, 2) := by decide +kernel
theorem dX11_init_107 : decode cX11_init 107 = .ok (.putfield 43, 3) := by decide +kernel
theorem dX11_init_110 : decode cX11_init 110 = .ok (.aload_n 0, 1) := by decide +kernel
theorem dX11_init_111 : decode cX11_init 111 = .ok (.bipush 24, 2) := by decide +kernel
theorem dX11_init_113 : decode cX11_init 113 = .ok (.newarray .int, 2) := by decide +kernel
theorem dX11_init_115 : decode cX11_init 115 = .ok (.putfield 46, 3) := by decide +kernel
theorem dX11_init_118 : decode cX11_init 118 = .ok (.aload_n 0, 1) := by decide +kernel
theorem dX11_init_119 : decode cX11_init 119 = .ok (.bipush 24, 2) := by decide +kernel
theorem dX11_init_121 : decode cX11_init 121 = .ok (.newarray .int, 2) := by decide +kernel
theorem dX11_init_123 : decode cX11_init 123 = .ok (.putfield 49, 3) := by decide +kernel
theorem dX11_init_126 : decode cX11_init 126 = .ok (.aload_n 0, 1) := by decide +kernel
theorem dX11_init_127 : decode cX11_init 127 = .ok (.bipush 24, 2) := by decide +kernel
theorem dX11_init_129 : decode cX11_init 129 = .ok (.newarray .int, 2) := by decide +kernel
theorem dX11_init_131 : decode cX11_init 131 = .ok (.putfield 52, 3) := by decide +kernel
theorem dX11_init_134 : decode cX11_init 134 = .ok (.aload_n 0, 1) := by decide +kernel
theorem dX11_init_135 : decode cX11_init 135 = .ok (.bipush 24, 2) := by decide +kernel
theorem dX11_init_137 : decode cX11_init 137 = .ok (.newarray .int, 2) := by decide +kernel
theorem dX11_init_139 : decode cX11_init 139 = .ok (.putfield 55, 3) := by decide +kernel
theorem dX11_init_142 : decode cX11_init 142 = .ok (.aload_n 0, 1) := by decide +kernel
theorem dX11_init_143 : decode cX11_init 143 = .ok (.getfield 7, 3) := by decide +kernel
theorem dX11_init_146 : decode cX11_init 146 = .ok (.sipush 2041, 3) := by decide +kernel
theorem dX11_init_149 : decode cX11_init 149 = .ok (.bipush 30, 2) := by decide +kernel
theorem dX11_init_151 : decode cX11_init 151 = .ok (.iastore, 1) := by decide +kernel
theorem dX11_init_152 : decode cX11_init 152 = .ok (.aload_n 0, 1) := by decide +kernel
theorem dX11_init_153 : decode cX11_init 153 = .ok (.getfield 7, 3) := by decide +kernel
theorem dX11_init_156 : decode cX11_init 156 = .ok (.sipush 2042, 3) := by decide +kernel
theorem dX11_init_159 : decode cX11_init 159 = .ok (.bipush 12, 2) := by decide +kernel
theorem dX11_init_161 : decode cX11_init 161 = .ok (.iastore, 1) := by decide +kernel
theorem dX11_init_162 : decode cX11_init 162 = .ok (.aload_n 0, 1) := by decide +kernel
theorem dX11_init_163 : decode cX11_init 163 = .ok (.getfield 7, 3) := by decide +kernel
theorem dX11_init_166 : decode cX11_init 166 = .ok (.sipush 2043, 3) := by decide +kernel
theorem dX11_init_169 : decode cX11_init 169 = .ok (.iconst 2, 1) := by decide +kernel
theorem dX11_init_170 : decode cX11_init 170 = .ok (.iastore, 1) := by decide +kernel
theorem dX11_init_171 : decode cX11_init 171 = .ok (.aload_n 0, 1) := by decide +kernel
theorem dX11_init_172 : decode cX11_init 172 = .ok (.getfield 7, 3) := by decide +kernel
theorem dX11_init_175 : decode cX11_init 175 = .ok (.sipush 2044, 3) := by decide +kernel
theorem dX11_init_178 : decode cX11_init 178 = .ok (.iconst 4, 1) := by decide +kernel
theorem dX11_init_179 : decode cX11_init 179 = .ok (.iastore, 1) := by decide +kernel
theorem dX11_init_180 : decode cX11_init 180 = .ok (.aload_n 0, 1) := by decide +kernel
theorem dX11_init_181 : decode cX11_init 181 = .ok (.getfield 7, 3) := by decide +kernel
theorem dX11_init_184 : decode cX11_init 184 = .ok (.sipush 2045, 3) := by decide +kernel
theorem dX11_init_187 : decode cX11_init 187 = .ok (.bipush 6, 2) := by decide +kernel
theorem dX11_init_189 : decode cX11_init 189 = .ok (.iastore, 1) := by decide +kernel
theorem dX11_init_190 : decode cX11_init 190 = .ok (.return_, 1) := by decide +kernel
theorem dX11_in_0 : decode cX11_in 0 = .ok (.iload_n 0, 1) := by decide +kernel
theorem dX11_in_1 : decode cX11_in 1 = .ok (.iload_n 1, 1) := by decide +kernel
theorem dX11_in_2 : decode cX11_in 2 = .ok (.if_icmp .lt 12, 3) := by decide +kernel
theorem dX11_in_5 : decode cX11_in 5 = .ok (.iload_n 0, 1) := by decide +kernel
theorem dX11_in_6 : decode cX11_in 6 = .ok (.iload_n 2, 1) := by decide +kernel
theorem dX11_in_7 : decode cX11_in 7 = .ok (.if_icmp .gt 7, 3) := by decide +kernel
theorem dX11_in_10 : decode cX11_in 10 = .ok (.iconst 1, 1) := by decide +kernel
theorem dX11_in_11 : decode cX11_in 11 = .ok (.goto 4, 3) := by decide +kernel
theorem dX11_in_14 : decode cX11_in 14 = .ok (.iconst 0, 1) := by decide +kernel
theorem dX11_in_15 : decode cX11_in 15 = .ok (.ireturn, 1) := by decide +kernel
theorem dX11_lesser_0 : decode cX11_lesser 0 = .ok (.iload_n 0, 1) := by decide +kernel
theorem dX11_lesser_1 : decode cX11_lesser 1 = .ok (.iload_n 1, 1) := by decide +kernel
theorem dX11_lesser_2 : decode cX11_lesser 2 = .ok (.if_icmp .ge 7, 3) := by decide +kernel
theorem dX11_lesser_5 : decode cX11_lesser 5 = .ok (.iload_n 0, 1) := by decide +kernel
theorem dX11_lesser_6 : decode cX11_lesser 6 = .ok (.goto 4, 3) := by decide +kernel
theorem dX11_lesser_9 : decode cX11_lesser 9 = .ok (.iload_n 1, 1) := by decide +kernel
theorem dX11_lesser_10 : decode cX11_lesser 10 = .ok (.ireturn, 1) := by decide +kernel
theorem dX11_keeps_0 : decode cX11_keeps 0 = .ok (.aload_n 0, 1) := by decide +kernel
theorem dX11_keeps_1 : decode cX11_keeps 1 = .ok (.getfield 58, 3) := by decide +kernel
theorem dX11_keeps_4 : decode cX11_keeps 4 = .ok (.bipush 8, 2) := by decide +kernel
theorem dX11_keeps_6 : decode cX11_keeps 6 = .ok (.if_icmp .ne 44, 3) := by decide +kernel
theorem dX11_keeps_9 : decode cX11_keeps 9 = .ok (.iconst 0, 1) := by decide +kernel
theorem dX11_keeps_10 : decode cX11_keeps 10 = .ok (.istore_n 1, 1) := by decide +kernel
theorem dX11_keeps_11 : decode cX11_keeps 11 = .ok (.iload_n 1, 1) := by decide +kernel
theorem dX11_keeps_12 : decode cX11_keeps 12 = .ok (.sipush 14322, 3) := by decide +kernel
theorem dX11_keeps_15 : decode cX11_keeps 15 = .ok (.if_icmp .ge 25, 3) := by decide +kernel
theorem dX11_keeps_18 : decode cX11_keeps 18 = .ok (.aload_n 0, 1) := by decide +kernel
theorem dX11_keeps_19 : decode cX11_keeps 19 = .ok (.getfield 13, 3) := by decide +kernel
theorem dX11_keeps_22 : decode cX11_keeps 22 = .ok (.iload_n 1, 1) := by decide +kernel
theorem dX11_keeps_23 : decode cX11_keeps 23 = .ok (.aload_n 0, 1) := by decide +kernel
theorem dX11_keeps_24 : decode cX11_keeps 24 = .ok (.getfield 13, 3) := by decide +kernel
theorem dX11_keeps_27 : decode cX11_keeps 27 = .ok (.iload_n 1, 1) := by decide +kernel
theorem dX11_keeps_28 : decode cX11_keeps 28 = .ok (.sipush 2046, 3) := by decide +kernel
theorem dX11_keeps_31 : decode cX11_keeps 31 = .ok (.iadd, 1) := by decide +kernel
theorem dX11_keeps_32 : decode cX11_keeps 32 = .ok (.iaload, 1) := by decide +kernel
theorem dX11_keeps_33 : decode cX11_keeps 33 = .ok (.iastore, 1) := by decide +kernel
theorem dX11_keeps_34 : decode cX11_keeps 34 = .ok (.iinc 1 1, 3) := by decide +kernel
theorem dX11_keeps_37 : decode cX11_keeps 37 = .ok (.goto (-26), 3) := by decide +kernel
theorem dX11_keeps_40 : decode cX11_keeps 40 = .ok (.aload_n 0, 1) := by decide +kernel
theorem dX11_keeps_41 : decode cX11_keeps 41 = .ok (.dup, 1) := by decide +kernel
theorem dX11_keeps_42 : decode cX11_keeps 42 = .ok (.getfield 58, 3) := by decide +kernel
theorem dX11_keeps_45 : decode cX11_keeps 45 = .ok (.iconst 1, 1) := by decide +kernel
theorem dX11_keeps_46 : decode cX11_keeps 46 = .ok (.isub, 1) := by decide +kernel
theorem dX11_keeps_47 : decode cX11_keeps 47 = .ok (.putfield 58, 3) := by decide +kernel
theorem dX11_keeps_50 : decode cX11_keeps 50 = .ok (.iconst 0, 1) := by decide +kernel
theorem dX11_keeps_51 : decode cX11_keeps 51 = .ok (.istore_n 1, 1) := by decide +kernel
theorem dX11_keeps_52 : decode cX11_keeps 52 = .ok (.iload_n 1, 1) := by decide +kernel
theorem dX11_keeps_53 : decode cX11_keeps 53 = .ok (.sipush 2046, 3) := by decide +kernel
theorem dX11_keeps_56 : decode cX11_keeps 56 = .ok (.if_icmp .ge 30, 3) := by decide +kernel
theorem dX11_keeps_59 : decode cX11_keeps 59 = .ok (.aload_n 0, 1) := by decide +kernel
theorem dX11_keeps_60 : decode cX11_keeps 60 = .ok (.getfield 13, 3) := by decide +kernel
theorem dX11_keeps_63 : decode cX11_keeps 63 = .ok (.sipush 2046, 3) := by decide +kernel
theorem dX11_keeps_66 : decode cX11_keeps 66 = .ok (.aload_n 0, 1) := by decide +kernel
theorem dX11_keeps_67 : decode cX11_keeps 67 = .ok (.getfield 58, 3) := by decide +kernel
theorem dX11_keeps_70 : decode cX11_keeps 70 = .ok (.imul, 1) := by decide +kernel
theorem dX11_keeps_71 : decode cX11_keeps 71 = .ok (.iload_n 1, 1) := by decide +kernel
theorem dX11_keeps_72 : decode cX11_keeps 72 = .ok (.iadd, 1) := by decide +kernel
theorem dX11_keeps_73 : decode cX11_keeps 73 = .ok (.aload_n 0, 1) := by decide +kernel
theorem dX11_keeps_74 : decode cX11_keeps 74 = .ok (.getfield 7, 3) := by decide +kernel
theorem dX11_keeps_77 : decode cX11_keeps 77 = .ok (.iload_n 1, 1) := by decide +kernel
theorem dX11_keeps_78 : decode cX11_keeps 78 = .ok (.iaload, 1) := by decide +kernel
theorem dX11_keeps_79 : decode cX11_keeps 79 = .ok (.iastore, 1) := by decide +kernel
theorem dX11_keeps_80 : decode cX11_keeps 80 = .ok (.iinc 1 1, 3) := by decide +kernel
theorem dX11_keeps_83 : decode cX11_keeps 83 = .ok (.goto (-31), 3) := by decide +kernel
theorem dX11_keeps_86 : decode cX11_keeps 86 = .ok (.aload_n 0, 1) := by decide +kernel
theorem dX11_keeps_87 : decode cX11_keeps 87 = .ok (.dup, 1) := by decide +kernel
theorem dX11_keeps_88 : decode cX11_keeps 88 = .ok (.getfield 58, 3) := by decide +kernel
theorem dX11_keeps_91 : decode cX11_keeps 91 = .ok (.iconst 1, 1) := by decide +kernel
theorem dX11_keeps_92 : decode cX11_keeps 92 = .ok (.iadd, 1) := by decide +kernel
theorem dX11_keeps_93 : decode cX11_keeps 93 = .ok (.putfield 58, 3) := by decide +kernel
theorem dX11_keeps_96 : decode cX11_keeps 96 = .ok (.return_, 1) := by decide +kernel
theorem dX11_undo_0 : decode cX11_undo 0 = .ok (.aload_n 0, 1) := by decide +kernel
theorem dX11_undo_1 : decode cX11_undo 1 = .ok (.getfield 58, 3) := by decide +kernel
theorem dX11_undo_4 : decode cX11_undo 4 = .ok (.ifCond .ne 6, 3) := by decide +kernel
theorem dX11_undo_7 : decode cX11_undo 7 = .ok (.bipush (-3), 2) := by decide +kernel
theorem dX11_undo_9 : decode cX11_undo 9 = .ok (.ireturn, 1) := by decide +kernel
theorem dX11_undo_10 : decode cX11_undo 10 = .ok (.aload_n 0, 1) := by decide +kernel
theorem dX11_undo_11 : decode cX11_undo 11 = .ok (.dup, 1) := by decide +kernel
theorem dX11_undo_12 : decode cX11_undo 12 = .ok (.getfield 58, 3) := by decide +kernel
theorem dX11_undo_15 : decode cX11_undo 15 = .ok (.iconst 1, 1) := by decide +kernel
theorem dX11_undo_16 : decode cX11_undo 16 = .ok (.isub, 1) := by decide +kernel
theorem dX11_undo_17 : decode cX11_undo 17 = .ok (.putfield 58, 3) := by decide +kernel
theorem dX11_undo_20 : decode cX11_undo 20 = .ok (.iconst 0, 1) := by decide +kernel
theorem dX11_undo_21 : decode cX11_undo 21 = .ok (.istore_n 1, 1) := by decide +kernel
theorem dX11_undo_22 : decode cX11_undo 22 = .ok (.iload_n 1, 1) := by decide +kernel
theorem dX11_undo_23 : decode cX11_undo 23 = .ok (.sipush 2046, 3) := by decide +kernel
theorem dX11_undo_26 : decode cX11_undo 26 = .ok (.if_icmp .ge 30, 3) := by decide +kernel
theorem dX11_undo_29 : decode cX11_undo 29 = .ok (.aload_n 0, 1) := by decide +kernel
theorem dX11_undo_30 : decode cX11_undo 30 = .ok (.getfield 7, 3) := by decide +kernel
theorem dX11_undo_33 : decode cX11_undo 33 = .ok (.iload_n 1, 1) := by decide +kernel
theorem dX11_undo_34 : decode cX11_undo 34 = .ok (.aload_n 0, 1) := by decide +kernel
theorem dX11_undo_35 : decode cX11_undo 35 = .ok (.getfield 13, 3) := by decide +kernel
theorem dX11_undo_38 : decode cX11_undo 38 = .ok (.sipush 2046, 3) := by decide +kernel
theorem dX11_undo_41 : decode cX11_undo 41 = .ok (.aload_n 0, 1) := by decide +kernel
theorem dX11_undo_42 : decode cX11_undo 42 = .ok (.getfield 58, 3) := by decide +kernel
theorem dX11_undo_45 : decode cX11_undo 45 = .ok (.imul, 1) := by decide +kernel
theorem dX11_undo_46 : decode cX11_undo 46 = .ok (.iload_n 1, 1) := by decide +kernel
theorem dX11_undo_47 : decode cX11_undo 47 = .ok (.iadd, 1) := by decide +kernel
theorem dX11_undo_48 : decode cX11_undo 48 = .ok (.iaload, 1) := by decide +kernel
theorem dX11_undo_49 : decode cX11_undo 49 = .ok (.iastore, 1) := by decide +kernel
theorem dX11_undo_50 : decode cX11_undo 50 = .ok (.iinc 1 1, 3) := by decide +kernel
theorem dX11_undo_53 : decode cX11_undo 53 = .ok (.goto (-31), 3) := by decide +kernel
theorem dX11_undo_56 : decode cX11_undo 56 = .ok (.aload_n 0, 1) := by decide +kernel
theorem dX11_undo_57 : decode cX11_undo 57 = .ok (.getfield 58, 3) := by decide +kernel
theorem dX11_undo_60 : decode cX11_undo 60 = .ok (.ireturn, 1) := by decide +kernel
theorem dX11_type_0 : decode cX11_type 0 = .ok (.iload_n 1, 1) := by decide +kernel
theorem dX11_type_1 : decode cX11_type 1 = .ok (.iconst 0, 1) := by decide +kernel
theorem dX11_type_2 : decode cX11_type 2 = .ok (.bipush 127, 2) := by decide +kernel
theorem dX11_type_4 : decode cX11_type 4 = .ok (.invokestatic 62, 3) := by decide +kernel
theorem dX11_type_7 : decode cX11_type 7 = .ok (.ifCond .ne 6, 3) := by decide +kernel
theorem dX11_type_10 : decode cX11_type 10 = .ok (.bipush (-2), 2) := by decide +kernel
theorem dX11_type_12 : decode cX11_type 12 = .ok (.ireturn, 1) := by decide +kernel
theorem dX11_type_13 : decode cX11_type 13 = .ok (.aload_n 0, 1) := by decide +kernel
theorem dX11_type_14 : decode cX11_type 14 = .ok (.getfield 66, 3) := by decide +kernel
theorem dX11_type_17 : decode cX11_type 17 = .ok (.bipush 80, 2) := by decide +kernel
theorem dX11_type_19 : decode cX11_type 19 = .ok (.if_icmp .ne 6, 3) := by decide +kernel
theorem dX11_type_22 : decode cX11_type 22 = .ok (.bipush (-4), 2) := by decide +kernel
theorem dX11_type_24 : decode cX11_type 24 = .ok (.ireturn, 1) := by decide +kernel
theorem dX11_type_25 : decode cX11_type 25 = .ok (.aload_n 0, 1) := by decide +kernel
theorem dX11_type_26 : decode cX11_type 26 = .ok (.getfield 16, 3) := by decide +kernel
theorem dX11_type_29 : decode cX11_type 29 = .ok (.aload_n 0, 1) := by decide +kernel
theorem dX11_type_30 : decode cX11_type 30 = .ok (.getfield 66, 3) := by decide +kernel
theorem dX11_type_33 : decode cX11_type 33 = .ok (.iload_n 1, 1) := by decide +kernel
theorem dX11_type_34 : decode cX11_type 34 = .ok (.iastore, 1) := by decide +kernel
theorem dX11_type_35 : decode cX11_type 35 = .ok (.aload_n 0, 1) := by decide +kernel
theorem dX11_type_36 : decode cX11_type 36 = .ok (.dup, 1) := by decide +kernel
theorem dX11_type_37 : decode cX11_type 37 = .ok (.getfield 66, 3) := by decide +kernel
theorem dX11_type_40 : decode cX11_type 40 = .ok (.iconst 1, 1) := by decide +kernel
theorem dX11_type_41 : decode cX11_type 41 = .ok (.iadd, 1) := by decide +kernel
theorem dX11_type_42 : decode cX11_type 42 = .ok (.putfield 66, 3) := by decide +kernel
theorem dX11_type_45 : decode cX11_type 45 = .ok (.aload_n 0, 1) := by decide +kernel
theorem dX11_type_46 : decode cX11_type 46 = .ok (.getfield 66, 3) := by decide +kernel
theorem dX11_type_49 : decode cX11_type 49 = .ok (.ireturn, 1) := by decide +kernel
theorem dX11_clear_0 : decode cX11_clear 0 = .ok (.aload_n 0, 1) := by decide +kernel
theorem dX11_clear_1 : decode cX11_clear 1 = .ok (.getfield 66, 3) := by decide +kernel
theorem dX11_clear_4 : decode cX11_clear 4 = .ok (.istore_n 1, 1) := by decide +kernel
theorem dX11_clear_5 : decode cX11_clear 5 = .ok (.aload_n 0, 1) := by decide +kernel
theorem dX11_clear_6 : decode cX11_clear 6 = .ok (.iconst 0, 1) := by decide +kernel
theorem dX11_clear_7 : decode cX11_clear 7 = .ok (.putfield 66, 3) := by decide +kernel
theorem dX11_clear_10 : decode cX11_clear 10 = .ok (.iload_n 1, 1) := by decide +kernel
theorem dX11_clear_11 : decode cX11_clear 11 = .ok (.ireturn, 1) := by decide +kernel
theorem dX11_next_0 : decode cX11_next 0 = .ok (.aload_n 0, 1) := by decide +kernel
theorem dX11_next_1 : decode cX11_next 1 = .ok (.getfield 69, 3) := by decide +kernel
theorem dX11_next_4 : decode cX11_next 4 = .ok (.aload_n 0, 1) := by decide +kernel
theorem dX11_next_5 : decode cX11_next 5 = .ok (.getfield 66, 3) := by decide +kernel
theorem dX11_next_8 : decode cX11_next 8 = .ok (.if_icmp .ge 15, 3) := by decide +kernel
theorem dX11_next_11 : decode cX11_next 11 = .ok (.aload_n 0, 1) := by decide +kernel
theorem dX11_next_12 : decode cX11_next 12 = .ok (.getfield 16, 3) := by decide +kernel
theorem dX11_next_15 : decode cX11_next 15 = .ok (.aload_n 0, 1) := by decide +kernel
theorem dX11_next_16 : decode cX11_next 16 = .ok (.getfield 69, 3) := by decide +kernel
theorem dX11_next_19 : decode cX11_next 19 = .ok (.iaload, 1) := by decide +kernel
theorem dX11_next_20 : decode cX11_next 20 = .ok (.goto 4, 3) := by decide +kernel
theorem dX11_next_23 : decode cX11_next 23 = .ok (.iconst (-1), 1) := by decide +kernel
theorem dX11_next_24 : decode cX11_next 24 = .ok (.ireturn, 1) := by decide +kernel
theorem dX11_isLetter_0 : decode cX11_isLetter 0 = .ok (.aload_n 0, 1) := by decide +kernel
theorem dX11_isLetter_1 : decode cX11_isLetter 1 = .ok (.invokevirtual 72, 3) := by decide +kernel
theorem dX11_isLetter_4 : decode cX11_isLetter 4 = .ok (.bipush 97, 2) := by decide +kernel
theorem dX11_isLetter_6 : decode cX11_isLetter 6 = .ok (.bipush 122, 2) := by decide +kernel
theorem dX11_isLetter_8 : decode cX11_isLetter 8 = .ok (.invokestatic 62, 3) := by decide +kernel
theorem dX11_isLetter_11 : decode cX11_isLetter 11 = .ok (.ireturn, 1) := by decide +kernel
theorem dX11_skips_0 : decode cX11_skips 0 = .ok (.aload_n 0, 1) := by decide +kernel
theorem dX11_skips_1 : decode cX11_skips 1 = .ok (.invokevirtual 72, 3) := by decide +kernel
theorem dX11_skips_4 : decode cX11_skips 4 = .ok (.bipush 32, 2) := by decide +kernel
theorem dX11_skips_6 : decode cX11_skips 6 = .ok (.if_icmp .ne 16, 3) := by decide +kernel
theorem dX11_skips_9 : decode cX11_skips 9 = .ok (.aload_n 0, 1) := by decide +kernel
theorem dX11_skips_10 : decode cX11_skips 10 = .ok (.dup, 1) := by decide +kernel
theorem dX11_skips_11 : decode cX11_skips 11 = .ok (.getfield 69, 3) := by decide +kernel
theorem dX11_skips_14 : decode cX11_skips 14 = .ok (.iconst 1, 1) := by decide +kernel
theorem dX11_skips_15 : decode cX11_skips 15 = .ok (.iadd, 1) := by decide +kernel
theorem dX11_skips_16 : decode cX11_skips 16 = .ok (.putfield 69, 3) := by decide +kernel
theorem dX11_skips_19 : decode cX11_skips 19 = .ok (.goto (-19), 3) := by decide +kernel
theorem dX11_skips_22 : decode cX11_skips 22 = .ok (.return_, 1) := by decide +kernel
theorem dX11_takes_0 : decode cX11_takes 0 = .ok (.aload_n 0, 1) := by decide +kernel
theorem dX11_takes_1 : decode cX11_takes 1 = .ok (.invokevirtual 72, 3) := by decide +kernel
theorem dX11_takes_4 : decode cX11_takes 4 = .ok (.iload_n 1, 1) := by decide +kernel
theorem dX11_takes_5 : decode cX11_takes 5 = .ok (.if_icmp .ne 7, 3) := by decide +kernel
theorem dX11_takes_8 : decode cX11_takes 8 = .ok (.iconst 1, 1) := by decide +kernel
theorem dX11_takes_9 : decode cX11_takes 9 = .ok (.goto 4, 3) := by decide +kernel
theorem dX11_takes_12 : decode cX11_takes 12 = .ok (.iconst 0, 1) := by decide +kernel
theorem dX11_takes_13 : decode cX11_takes 13 = .ok (.istore_n 2, 1) := by decide +kernel
theorem dX11_takes_14 : decode cX11_takes 14 = .ok (.iload_n 2, 1) := by decide +kernel
theorem dX11_takes_15 : decode cX11_takes 15 = .ok (.ifCond .eq 17, 3) := by decide +kernel
theorem dX11_takes_18 : decode cX11_takes 18 = .ok (.aload_n 0, 1) := by decide +kernel
theorem dX11_takes_19 : decode cX11_takes 19 = .ok (.dup, 1) := by decide +kernel
theorem dX11_takes_20 : decode cX11_takes 20 = .ok (.getfield 69, 3) := by decide +kernel
theorem dX11_takes_23 : decode cX11_takes 23 = .ok (.iconst 1, 1) := by decide +kernel
theorem dX11_takes_24 : decode cX11_takes 24 = .ok (.iadd, 1) := by decide +kernel
theorem dX11_takes_25 : decode cX11_takes 25 = .ok (.putfield 69, 3) := by decide +kernel
theorem dX11_takes_28 : decode cX11_takes 28 = .ok (.aload_n 0, 1) := by decide +kernel
theorem dX11_takes_29 : decode cX11_takes 29 = .ok (.invokevirtual 76, 3) := by decide +kernel
theorem dX11_takes_32 : decode cX11_takes 32 = .ok (.iload_n 2, 1) := by decide +kernel
theorem dX11_takes_33 : decode cX11_takes 33 = .ok (.ireturn, 1) := by decide +kernel
theorem dX11_readsWord_0 : decode cX11_readsWord 0 = .ok (.aload_n 0, 1) := by decide +kernel
theorem dX11_readsWord_1 : decode cX11_readsWord 1 = .ok (.getfield 19, 3) := by decide +kernel
theorem dX11_readsWord_4 : decode cX11_readsWord 4 = .ok (.iconst 1, 1) := by decide +kernel
theorem dX11_readsWord_5 : decode cX11_readsWord 5 = .ok (.iaload, 1) := by decide +kernel
theorem dX11_readsWord_6 : decode cX11_readsWord 6 = .ok (.ifCond .le 28, 3) := by decide +kernel
theorem dX11_readsWord_9 : decode cX11_readsWord 9 = .ok (.aload_n 0, 1) := by decide +kernel
theorem dX11_readsWord_10 : decode cX11_readsWord 10 = .ok (.getfield 19, 3) := by decide +kernel
theorem dX11_readsWord_13 : decode cX11_readsWord 13 = .ok (.iconst 5, 1) := by decide +kernel
theorem dX11_readsWord_14 : decode cX11_readsWord 14 = .ok (.aload_n 0, 1) := by decide +kernel
theorem dX11_readsWord_15 : decode cX11_readsWord 15 = .ok (.getfield 19, 3) := by decide +kernel
theorem dX11_readsWord_18 : decode cX11_readsWord 18 = .ok (.iconst 0, 1) := by decide +kernel
theorem dX11_readsWord_19 : decode cX11_readsWord 19 = .ok (.iaload, 1) := by decide +kernel
theorem dX11_readsWord_20 : decode cX11_readsWord 20 = .ok (.iadd, 1) := by decide +kernel
theorem dX11_readsWord_21 : decode cX11_readsWord 21 = .ok (.bipush 32, 2) := by decide +kernel
theorem dX11_readsWord_23 : decode cX11_readsWord 23 = .ok (.iastore, 1) := by decide +kernel
theorem dX11_readsWord_24 : decode cX11_readsWord 24 = .ok (.aload_n 0, 1) := by decide +kernel
theorem dX11_readsWord_25 : decode cX11_readsWord 25 = .ok (.getfield 19, 3) := by decide +kernel
theorem dX11_readsWord_28 : decode cX11_readsWord 28 = .ok (.iconst 0, 1) := by decide +kernel
theorem dX11_readsWord_29 : decode cX11_readsWord 29 = .ok (.dup2, 1) := by decide +kernel
theorem dX11_readsWord_30 : decode cX11_readsWord 30 = .ok (.iaload, 1) := by decide +kernel
theorem dX11_readsWord_31 : decode cX11_readsWord 31 = .ok (.iconst 1, 1) := by decide +kernel
theorem dX11_readsWord_32 : decode cX11_readsWord 32 = .ok (.iadd, 1) := by decide +kernel
theorem dX11_readsWord_33 : decode cX11_readsWord 33 = .ok (.iastore, 1) := by decide +kernel
theorem dX11_readsWord_34 : decode cX11_readsWord 34 = .ok (.iconst 0, 1) := by decide +kernel
theorem dX11_readsWord_35 : decode cX11_readsWord 35 = .ok (.istore_n 1, 1) := by decide +kernel
theorem dX11_readsWord_36 : decode cX11_readsWord 36 = .ok (.aload_n 0, 1) := by decide +kernel
theorem dX11_readsWord_37 : decode cX11_readsWord 37 = .ok (.invokevirtual 79, 3) := by decide +kernel
theorem dX11_readsWord_40 : decode cX11_readsWord 40 = .ok (.ifCond .eq 52, 3) := by decide +kernel
theorem dX11_readsWord_43 : decode cX11_readsWord 43 = .ok (.iload_n 1, 1) := by decide +kernel
theorem dX11_readsWord_44 : decode cX11_readsWord 44 = .ok (.bipush 16, 2) := by decide +kernel
theorem dX11_readsWord_46 : decode cX11_readsWord 46 = .ok (.if_icmp .ge 46, 3) := by decide +kernel
theorem dX11_readsWord_49 : decode cX11_readsWord 49 = .ok (.aload_n 0, 1) := by decide +kernel
theorem dX11_readsWord_50 : decode cX11_readsWord 50 = .ok (.getfield 19, 3) := by decide +kernel
theorem dX11_readsWord_53 : decode cX11_readsWord 53 = .ok (.iconst 5, 1) := by decide +kernel
theorem dX11_readsWord_54 : decode cX11_readsWord 54 = .ok (.aload_n 0, 1) := by decide +kernel
theorem dX11_readsWord_55 : decode cX11_readsWord 55 = .ok (.getfield 19, 3) := by decide +kernel
theorem dX11_readsWord_58 : decode cX11_readsWord 58 = .ok (.iconst 0, 1) := by decide +kernel
theorem dX11_readsWord_59 : decode cX11_readsWord 59 = .ok (.iaload, 1) := by decide +kernel
theorem dX11_readsWord_60 : decode cX11_readsWord 60 = .ok (.iadd, 1) := by decide +kernel
theorem dX11_readsWord_61 : decode cX11_readsWord 61 = .ok (.aload_n 0, 1) := by decide +kernel
theorem dX11_readsWord_62 : decode cX11_readsWord 62 = .ok (.invokevirtual 72, 3) := by decide +kernel
theorem dX11_readsWord_65 : decode cX11_readsWord 65 = .ok (.iastore, 1) := by decide +kernel
theorem dX11_readsWord_66 : decode cX11_readsWord 66 = .ok (.aload_n 0, 1) := by decide +kernel
theorem dX11_readsWord_67 : decode cX11_readsWord 67 = .ok (.getfield 19, 3) := by decide +kernel
theorem dX11_readsWord_70 : decode cX11_readsWord 70 = .ok (.iconst 0, 1) := by decide +kernel
theorem dX11_readsWord_71 : decode cX11_readsWord 71 = .ok (.dup2, 1) := by decide +kernel
theorem dX11_readsWord_72 : decode cX11_readsWord 72 = .ok (.iaload, 1) := by decide +kernel
theorem dX11_readsWord_73 : decode cX11_readsWord 73 = .ok (.iconst 1, 1) := by decide +kernel
theorem dX11_readsWord_74 : decode cX11_readsWord 74 = .ok (.iadd, 1) := by decide +kernel
theorem dX11_readsWord_75 : decode cX11_readsWord 75 = .ok (.iastore, 1) := by decide +kernel
theorem dX11_readsWord_76 : decode cX11_readsWord 76 = .ok (.iinc 1 1, 3) := by decide +kernel
theorem dX11_readsWord_79 : decode cX11_readsWord 79 = .ok (.aload_n 0, 1) := by decide +kernel
theorem dX11_readsWord_80 : decode cX11_readsWord 80 = .ok (.dup, 1) := by decide +kernel
theorem dX11_readsWord_81 : decode cX11_readsWord 81 = .ok (.getfield 69, 3) := by decide +kernel
theorem dX11_readsWord_84 : decode cX11_readsWord 84 = .ok (.iconst 1, 1) := by decide +kernel
theorem dX11_readsWord_85 : decode cX11_readsWord 85 = .ok (.iadd, 1) := by decide +kernel
theorem dX11_readsWord_86 : decode cX11_readsWord 86 = .ok (.putfield 69, 3) := by decide +kernel
theorem dX11_readsWord_89 : decode cX11_readsWord 89 = .ok (.goto (-53), 3) := by decide +kernel
theorem dX11_readsWord_92 : decode cX11_readsWord 92 = .ok (.aload_n 0, 1) := by decide +kernel
theorem dX11_readsWord_93 : decode cX11_readsWord 93 = .ok (.getfield 19, 3) := by decide +kernel
theorem dX11_readsWord_96 : decode cX11_readsWord 96 = .ok (.iconst 1, 1) := by decide +kernel
theorem dX11_readsWord_97 : decode cX11_readsWord 97 = .ok (.dup2, 1) := by decide +kernel
theorem dX11_readsWord_98 : decode cX11_readsWord 98 = .ok (.iaload, 1) := by decide +kernel
theorem dX11_readsWord_99 : decode cX11_readsWord 99 = .ok (.iconst 1, 1) := by decide +kernel
theorem dX11_readsWord_100 : decode cX11_readsWord 100 = .ok (.iadd, 1) := by decide +kernel
theorem dX11_readsWord_101 : decode cX11_readsWord 101 = .ok (.iastore, 1) := by decide +kernel
theorem dX11_readsWord_102 : decode cX11_readsWord 102 = .ok (.aload_n 0, 1) := by decide +kernel
theorem dX11_readsWord_103 : decode cX11_readsWord 103 = .ok (.aload_n 0, 1) := by decide +kernel
theorem dX11_readsWord_104 : decode cX11_readsWord 104 = .ok (.invokevirtual 79, 3) := by decide +kernel
theorem dX11_readsWord_107 : decode cX11_readsWord 107 = .ok (.ifCond .eq 10, 3) := by decide +kernel
theorem dX11_readsWord_110 : decode cX11_readsWord 110 = .ok (.aload_n 0, 1) := by decide +kernel
theorem dX11_readsWord_111 : decode cX11_readsWord 111 = .ok (.getfield 69, 3) := by decide +kernel
theorem dX11_readsWord_114 : decode cX11_readsWord 114 = .ok (.goto 7, 3) := by decide +kernel
theorem dX11_readsWord_117 : decode cX11_readsWord 117 = .ok (.aload_n 0, 1) := by decide +kernel
theorem dX11_readsWord_118 : decode cX11_readsWord 118 = .ok (.getfield 83, 3) := by decide +kernel
theorem dX11_readsWord_121 : decode cX11_readsWord 121 = .ok (.putfield 83, 3) := by decide +kernel
theorem dX11_readsWord_124 : decode cX11_readsWord 124 = .ok (.aload_n 0, 1) := by decide +kernel
theorem dX11_readsWord_125 : decode cX11_readsWord 125 = .ok (.invokevirtual 76, 3) := by decide +kernel
theorem dX11_readsWord_128 : decode cX11_readsWord 128 = .ok (.return_, 1) := by decide +kernel
theorem dX11_readsLine_0 : decode cX11_readsLine 0 = .ok (.aload_n 0, 1) := by decide +kernel
theorem dX11_readsLine_1 : decode cX11_readsLine 1 = .ok (.iconst 0, 1) := by decide +kernel
theorem dX11_readsLine_2 : decode cX11_readsLine 2 = .ok (.putfield 69, 3) := by decide +kernel
theorem dX11_readsLine_5 : decode cX11_readsLine 5 = .ok (.aload_n 0, 1) := by decide +kernel
theorem dX11_readsLine_6 : decode cX11_readsLine 6 = .ok (.iconst (-1), 1) := by decide +kernel
theorem dX11_readsLine_7 : decode cX11_readsLine 7 = .ok (.putfield 83, 3) := by decide +kernel
theorem dX11_readsLine_10 : decode cX11_readsLine 10 = .ok (.aload_n 0, 1) := by decide +kernel
theorem dX11_readsLine_11 : decode cX11_readsLine 11 = .ok (.invokevirtual 76, 3) := by decide +kernel
theorem dX11_readsLine_14 : decode cX11_readsLine 14 = .ok (.iconst 0, 1) := by decide +kernel
theorem dX11_readsLine_15 : decode cX11_readsLine 15 = .ok (.istore_n 1, 1) := by decide +kernel
theorem dX11_readsLine_16 : decode cX11_readsLine 16 = .ok (.iload_n 1, 1) := by decide +kernel
theorem dX11_readsLine_17 : decode cX11_readsLine 17 = .ok (.bipush 85, 2) := by decide +kernel
theorem dX11_readsLine_19 : decode cX11_readsLine 19 = .ok (.if_icmp .ge 16, 3) := by decide +kernel
theorem dX11_readsLine_22 : decode cX11_readsLine 22 = .ok (.aload_n 0, 1) := by decide +kernel
theorem dX11_readsLine_23 : decode cX11_readsLine 23 = .ok (.getfield 19, 3) := by decide +kernel
theorem dX11_readsLine_26 : decode cX11_readsLine 26 = .ok (.iload_n 1, 1) := by decide +kernel
theorem dX11_readsLine_27 : decode cX11_readsLine 27 = .ok (.iconst 0, 1) := by decide +kernel
theorem dX11_readsLine_28 : decode cX11_readsLine 28 = .ok (.iastore, 1) := by decide +kernel
theorem dX11_readsLine_29 : decode cX11_readsLine 29 = .ok (.iinc 1 1, 3) := by decide +kernel
theorem dX11_readsLine_32 : decode cX11_readsLine 32 = .ok (.goto (-16), 3) := by decide +kernel
theorem dX11_readsLine_35 : decode cX11_readsLine 35 = .ok (.aload_n 0, 1) := by decide +kernel
theorem dX11_readsLine_36 : decode cX11_readsLine 36 = .ok (.getfield 19, 3) := by decide +kernel
theorem dX11_readsLine_39 : decode cX11_readsLine 39 = .ok (.iconst 3, 1) := by decide +kernel
theorem dX11_readsLine_40 : decode cX11_readsLine 40 = .ok (.aload_n 0, 1) := by decide +kernel
theorem dX11_readsLine_41 : decode cX11_readsLine 41 = .ok (.bipush 126, 2) := by decide +kernel
theorem dX11_readsLine_43 : decode cX11_readsLine 43 = .ok (.invokevirtual 86, 3) := by decide +kernel
theorem dX11_readsLine_46 : decode cX11_readsLine 46 = .ok (.ifCond .eq 7, 3) := by decide +kernel
theorem dX11_readsLine_49 : decode cX11_readsLine 49 = .ok (.iconst 1, 1) := by decide +kernel
theorem dX11_readsLine_50 : decode cX11_readsLine 50 = .ok (.goto 4, 3) := by decide +kernel
theorem dX11_readsLine_53 : decode cX11_readsLine 53 = .ok (.iconst 0, 1) := by decide +kernel
theorem dX11_readsLine_54 : decode cX11_readsLine 54 = .ok (.iastore, 1) := by decide +kernel
theorem dX11_readsLine_55 : decode cX11_readsLine 55 = .ok (.aload_n 0, 1) := by decide +kernel
theorem dX11_readsLine_56 : decode cX11_readsLine 56 = .ok (.getfield 19, 3) := by decide +kernel
theorem dX11_readsLine_59 : decode cX11_readsLine 59 = .ok (.iconst 2, 1) := by decide +kernel
theorem dX11_readsLine_60 : decode cX11_readsLine 60 = .ok (.iaload, 1) := by decide +kernel
theorem dX11_readsLine_61 : decode cX11_readsLine 61 = .ok (.iconst 5, 1) := by decide +kernel
theorem dX11_readsLine_62 : decode cX11_readsLine 62 = .ok (.if_icmp .ge 25, 3) := by decide +kernel
theorem dX11_readsLine_65 : decode cX11_readsLine 65 = .ok (.aload_n 0, 1) := by decide +kernel
theorem dX11_readsLine_66 : decode cX11_readsLine 66 = .ok (.bipush 62, 2) := by decide +kernel
theorem dX11_readsLine_68 : decode cX11_readsLine 68 = .ok (.invokevirtual 86, 3) := by decide +kernel
theorem dX11_readsLine_71 : decode cX11_readsLine 71 = .ok (.ifCond .eq 16, 3) := by decide +kernel
theorem dX11_readsLine_74 : decode cX11_readsLine 74 = .ok (.aload_n 0, 1) := by decide +kernel
theorem dX11_readsLine_75 : decode cX11_readsLine 75 = .ok (.getfield 19, 3) := by decide +kernel
theorem dX11_readsLine_78 : decode cX11_readsLine 78 = .ok (.iconst 2, 1) := by decide +kernel
theorem dX11_readsLine_79 : decode cX11_readsLine 79 = .ok (.dup2, 1) := by decide +kernel
theorem dX11_readsLine_80 : decode cX11_readsLine 80 = .ok (.iaload, 1) := by decide +kernel
theorem dX11_readsLine_81 : decode cX11_readsLine 81 = .ok (.iconst 1, 1) := by decide +kernel
theorem dX11_readsLine_82 : decode cX11_readsLine 82 = .ok (.iadd, 1) := by decide +kernel
theorem dX11_readsLine_83 : decode cX11_readsLine 83 = .ok (.iastore, 1) := by decide +kernel
theorem dX11_readsLine_84 : decode cX11_readsLine 84 = .ok (.goto (-29), 3) := by decide +kernel
theorem dX11_readsLine_87 : decode cX11_readsLine 87 = .ok (.aload_n 0, 1) := by decide +kernel
theorem dX11_readsLine_88 : decode cX11_readsLine 88 = .ok (.invokevirtual 79, 3) := by decide +kernel
theorem dX11_readsLine_91 : decode cX11_readsLine 91 = .ok (.ifCond .eq 18, 3) := by decide +kernel
theorem dX11_readsLine_94 : decode cX11_readsLine 94 = .ok (.aload_n 0, 1) := by decide +kernel
theorem dX11_readsLine_95 : decode cX11_readsLine 95 = .ok (.getfield 83, 3) := by decide +kernel
theorem dX11_readsLine_98 : decode cX11_readsLine 98 = .ok (.iconst (-1), 1) := by decide +kernel
theorem dX11_readsLine_99 : decode cX11_readsLine 99 = .ok (.if_icmp .ne 10, 3) := by decide +kernel
theorem dX11_readsLine_102 : decode cX11_readsLine 102 = .ok (.aload_n 0, 1) := by decide +kernel
theorem dX11_readsLine_103 : decode cX11_readsLine 103 = .ok (.invokevirtual 90, 3) := by decide +kernel
theorem dX11_readsLine_106 : decode cX11_readsLine 106 = .ok (.goto (-19), 3) := by decide +kernel
theorem dX11_readsLine_109 : decode cX11_readsLine 109 = .ok (.aload_n 0, 1) := by decide +kernel
theorem dX11_readsLine_110 : decode cX11_readsLine 110 = .ok (.getfield 83, 3) := by decide +kernel
theorem dX11_readsLine_113 : decode cX11_readsLine 113 = .ok (.iconst (-1), 1) := by decide +kernel
theorem dX11_readsLine_114 : decode cX11_readsLine 114 = .ok (.if_icmp .ne 32, 3) := by decide +kernel
theorem dX11_readsLine_117 : decode cX11_readsLine 117 = .ok (.aload_n 0, 1) := by decide +kernel
theorem dX11_readsLine_118 : decode cX11_readsLine 118 = .ok (.getfield 19, 3) := by decide +kernel
theorem dX11_readsLine_121 : decode cX11_readsLine 121 = .ok (.iconst 1, 1) := by decide +kernel
theorem dX11_readsLine_122 : decode cX11_readsLine 122 = .ok (.iaload, 1) := by decide +kernel
theorem dX11_readsLine_123 : decode cX11_readsLine 123 = .ok (.ifCond .le 23, 3) := by decide +kernel
theorem dX11_readsLine_126 : decode cX11_readsLine 126 = .ok (.aload_n 0, 1) := by decide +kernel
theorem dX11_readsLine_127 : decode cX11_readsLine 127 = .ok (.getfield 19, 3) := by decide +kernel
theorem dX11_readsLine_130 : decode cX11_readsLine 130 = .ok (.iconst 4, 1) := by decide +kernel
theorem dX11_readsLine_131 : decode cX11_readsLine 131 = .ok (.aload_n 0, 1) := by decide +kernel
theorem dX11_readsLine_132 : decode cX11_readsLine 132 = .ok (.bipush 47, 2) := by decide +kernel
theorem dX11_readsLine_134 : decode cX11_readsLine 134 = .ok (.invokevirtual 86, 3) := by decide +kernel
theorem dX11_readsLine_137 : decode cX11_readsLine 137 = .ok (.ifCond .eq 7, 3) := by decide +kernel
theorem dX11_readsLine_140 : decode cX11_readsLine 140 = .ok (.iconst 1, 1) := by decide +kernel
theorem dX11_readsLine_141 : decode cX11_readsLine 141 = .ok (.goto 4, 3) := by decide +kernel
theorem dX11_readsLine_144 : decode cX11_readsLine 144 = .ok (.iconst 0, 1) := by decide +kernel
theorem dX11_readsLine_145 : decode cX11_readsLine 145 = .ok (.iastore, 1) := by decide +kernel
theorem dX11_readsLine_146 : decode cX11_readsLine 146 = .ok (.aload_n 0, 1) := by decide +kernel
theorem dX11_readsLine_147 : decode cX11_readsLine 147 = .ok (.getfield 83, 3) := by decide +kernel
theorem dX11_readsLine_150 : decode cX11_readsLine 150 = .ok (.iconst (-1), 1) := by decide +kernel
theorem dX11_readsLine_151 : decode cX11_readsLine 151 = .ok (.if_icmp .ne 31, 3) := by decide +kernel
theorem dX11_readsLine_154 : decode cX11_readsLine 154 = .ok (.aload_n 0, 1) := by decide +kernel
theorem dX11_readsLine_155 : decode cX11_readsLine 155 = .ok (.getfield 19, 3) := by decide +kernel
theorem dX11_readsLine_158 : decode cX11_readsLine 158 = .ok (.iconst 1, 1) := by decide +kernel
theorem dX11_readsLine_159 : decode cX11_readsLine 159 = .ok (.iaload, 1) := by decide +kernel
theorem dX11_readsLine_160 : decode cX11_readsLine 160 = .ok (.ifCond .eq 14, 3) := by decide +kernel
theorem dX11_readsLine_163 : decode cX11_readsLine 163 = .ok (.aload_n 0, 1) := by decide +kernel
theorem dX11_readsLine_164 : decode cX11_readsLine 164 = .ok (.getfield 69, 3) := by decide +kernel
theorem dX11_readsLine_167 : decode cX11_readsLine 167 = .ok (.aload_n 0, 1) := by decide +kernel
theorem dX11_readsLine_168 : decode cX11_readsLine 168 = .ok (.getfield 66, 3) := by decide +kernel
theorem dX11_readsLine_171 : decode cX11_readsLine 171 = .ok (.if_icmp .ge 11, 3) := by decide +kernel
theorem dX11_readsLine_174 : decode cX11_readsLine 174 = .ok (.aload_n 0, 1) := by decide +kernel
theorem dX11_readsLine_175 : decode cX11_readsLine 175 = .ok (.aload_n 0, 1) := by decide +kernel
theorem dX11_readsLine_176 : decode cX11_readsLine 176 = .ok (.getfield 69, 3) := by decide +kernel
theorem dX11_readsLine_179 : decode cX11_readsLine 179 = .ok (.putfield 83, 3) := by decide +kernel
theorem dX11_readsLine_182 : decode cX11_readsLine 182 = .ok (.return_, 1) := by decide +kernel
theorem dX11_isName_0 : decode cX11_isName 0 = .ok (.aload_n 0, 1) := by decide +kernel
theorem dX11_isName_1 : decode cX11_isName 1 = .ok (.getfield 69, 3) := by decide +kernel
theorem dX11_isName_4 : decode cX11_isName 4 = .ok (.iload_n 1, 1) := by decide +kernel
theorem dX11_isName_5 : decode cX11_isName 5 = .ok (.isub, 1) := by decide +kernel
theorem dX11_isName_6 : decode cX11_isName 6 = .ok (.iload 4, 2) := by decide +kernel
theorem dX11_isName_8 : decode cX11_isName 8 = .ok (.if_icmp .ne 7, 3) := by decide +kernel
theorem dX11_isName_11 : decode cX11_isName 11 = .ok (.iconst 1, 1) := by decide +kernel
theorem dX11_isName_12 : decode cX11_isName 12 = .ok (.goto 4, 3) := by decide +kernel
theorem dX11_isName_15 : decode cX11_isName 15 = .ok (.iconst 0, 1) := by decide +kernel
theorem dX11_isName_16 : decode cX11_isName 16 = .ok (.istore 5, 2) := by decide +kernel
theorem dX11_isName_18 : decode cX11_isName 18 = .ok (.iconst 0, 1) := by decide +kernel
theorem dX11_isName_19 : decode cX11_isName 19 = .ok (.istore 6, 2) := by decide +kernel
theorem dX11_isName_21 : decode cX11_isName 21 = .ok (.iload 6, 2) := by decide +kernel
theorem dX11_isName_23 : decode cX11_isName 23 = .ok (.iload 4, 2) := by decide +kernel
theorem dX11_isName_25 : decode cX11_isName 25 = .ok (.if_icmp .ge 50, 3) := by decide +kernel
theorem dX11_isName_28 : decode cX11_isName 28 = .ok (.iload 5, 2) := by decide +kernel
theorem dX11_isName_30 : decode cX11_isName 30 = .ok (.ifCond .eq 45, 3) := by decide +kernel
theorem dX11_isName_33 : decode cX11_isName 33 = .ok (.aload_n 0, 1) := by decide +kernel
theorem dX11_isName_34 : decode cX11_isName 34 = .ok (.getfield 16, 3) := by decide +kernel
theorem dX11_isName_37 : decode cX11_isName 37 = .ok (.iload_n 1, 1) := by decide +kernel
theorem dX11_isName_38 : decode cX11_isName 38 = .ok (.iload 6, 2) := by decide +kernel
theorem dX11_isName_40 : decode cX11_isName 40 = .ok (.iadd, 1) := by decide +kernel
theorem dX11_isName_41 : decode cX11_isName 41 = .ok (.iaload, 1) := by decide +kernel
theorem dX11_isName_42 : decode cX11_isName 42 = .ok (.lload_n 2, 1) := by decide +kernel
theorem dX11_isName_43 : decode cX11_isName 43 = .ok (.bipush 8, 2) := by decide +kernel
theorem dX11_isName_45 : decode cX11_isName 45 = .ok (.iload 4, 2) := by decide +kernel
theorem dX11_isName_47 : decode cX11_isName 47 = .ok (.iconst 1, 1) := by decide +kernel
theorem dX11_isName_48 : decode cX11_isName 48 = .ok (.isub, 1) := by decide +kernel
theorem dX11_isName_49 : decode cX11_isName 49 = .ok (.iload 6, 2) := by decide +kernel
theorem dX11_isName_51 : decode cX11_isName 51 = .ok (.isub, 1) := by decide +kernel
theorem dX11_isName_52 : decode cX11_isName 52 = .ok (.imul, 1) := by decide +kernel
theorem dX11_isName_53 : decode cX11_isName 53 = .ok (.lshr, 1) := by decide +kernel
theorem dX11_isName_54 : decode cX11_isName 54 = .ok (.ldc2_w 93, 3) := by decide +kernel
theorem dX11_isName_57 : decode cX11_isName 57 = .ok (.land, 1) := by decide +kernel
theorem dX11_isName_58 : decode cX11_isName 58 = .ok (.l2i, 1) := by decide +kernel
theorem dX11_isName_59 : decode cX11_isName 59 = .ok (.if_icmp .ne 7, 3) := by decide +kernel
theorem dX11_isName_62 : decode cX11_isName 62 = .ok (.iconst 1, 1) := by decide +kernel
theorem dX11_isName_63 : decode cX11_isName 63 = .ok (.goto 4, 3) := by decide +kernel
theorem dX11_isName_66 : decode cX11_isName 66 = .ok (.iconst 0, 1) := by decide +kernel
theorem dX11_isName_67 : decode cX11_isName 67 = .ok (.istore 5, 2) := by decide +kernel
theorem dX11_isName_69 : decode cX11_isName 69 = .ok (.iinc 6 1, 3) := by decide +kernel
theorem dX11_isName_72 : decode cX11_isName 72 = .ok (.goto (-51), 3) := by decide +kernel
theorem dX11_isName_75 : decode cX11_isName 75 = .ok (.iload 5, 2) := by decide +kernel
theorem dX11_isName_77 : decode cX11_isName 77 = .ok (.ireturn, 1) := by decide +kernel
theorem dX11_readsShape_0 : decode cX11_readsShape 0 = .ok (.aload_n 0, 1) := by decide +kernel
theorem dX11_readsShape_1 : decode cX11_readsShape 1 = .ok (.iconst 0, 1) := by decide +kernel
theorem dX11_readsShape_2 : decode cX11_readsShape 2 = .ok (.putfield 69, 3) := by decide +kernel
theorem dX11_readsShape_5 : decode cX11_readsShape 5 = .ok (.aload_n 0, 1) := by decide +kernel
theorem dX11_readsShape_6 : decode cX11_readsShape 6 = .ok (.iconst (-1), 1) := by decide +kernel
theorem dX11_readsShape_7 : decode cX11_readsShape 7 = .ok (.putfield 83, 3) := by decide +kernel
theorem dX11_readsShape_10 : decode cX11_readsShape 10 = .ok (.aload_n 0, 1) := by decide +kernel
theorem dX11_readsShape_11 : decode cX11_readsShape 11 = .ok (.invokevirtual 76, 3) := by decide +kernel
theorem dX11_readsShape_14 : decode cX11_readsShape 14 = .ok (.aload_n 0, 1) := by decide +kernel
theorem dX11_readsShape_15 : decode cX11_readsShape 15 = .ok (.getfield 69, 3) := by decide +kernel
theorem dX11_readsShape_18 : decode cX11_readsShape 18 = .ok (.istore_n 1, 1) := by decide +kernel
theorem dX11_readsShape_19 : decode cX11_readsShape 19 = .ok (.aload_n 0, 1) := by decide +kernel
theorem dX11_readsShape_20 : decode cX11_readsShape 20 = .ok (.invokevirtual 79, 3) := by decide +kernel
theorem dX11_readsShape_23 : decode cX11_readsShape 23 = .ok (.ifCond .eq 16, 3) := by decide +kernel
theorem dX11_readsShape_26 : decode cX11_readsShape 26 = .ok (.aload_n 0, 1) := by decide +kernel
theorem dX11_readsShape_27 : decode cX11_readsShape 27 = .ok (.dup, 1) := by decide +kernel
theorem dX11_readsShape_28 : decode cX11_readsShape 28 = .ok (.getfield 69, 3) := by decide +kernel
theorem dX11_readsShape_31 : decode cX11_readsShape 31 = .ok (.iconst 1, 1) := by decide +kernel
theorem dX11_readsShape_32 : decode cX11_readsShape 32 = .ok (.iadd, 1) := by decide +kernel
theorem dX11_readsShape_33 : decode cX11_readsShape 33 = .ok (.putfield 69, 3) := by decide +kernel
theorem dX11_readsShape_36 : decode cX11_readsShape 36 = .ok (.goto (-17), 3) := by decide +kernel
theorem dX11_readsShape_39 : decode cX11_readsShape 39 = .ok (.aload_n 0, 1) := by decide +kernel
theorem dX11_readsShape_40 : decode cX11_readsShape 40 = .ok (.aload_n 0, 1) := by decide +kernel
theorem dX11_readsShape_41 : decode cX11_readsShape 41 = .ok (.iload_n 1, 1) := by decide +kernel
theorem dX11_readsShape_42 : decode cX11_readsShape 42 = .ok (.ldc2_w 95, 3) := by decide +kernel
theorem dX11_readsShape_45 : decode cX11_readsShape 45 = .ok (.bipush 6, 2) := by decide +kernel
theorem dX11_readsShape_47 : decode cX11_readsShape 47 = .ok (.invokevirtual 97, 3) := by decide +kernel
theorem dX11_readsShape_50 : decode cX11_readsShape 50 = .ok (.ifCond .eq 7, 3) := by decide +kernel
theorem dX11_readsShape_53 : decode cX11_readsShape 53 = .ok (.iconst 0, 1) := by decide +kernel
theorem dX11_readsShape_54 : decode cX11_readsShape 54 = .ok (.goto 53, 3) := by decide +kernel
theorem dX11_readsShape_57 : decode cX11_readsShape 57 = .ok (.aload_n 0, 1) := by decide +kernel
theorem dX11_readsShape_58 : decode cX11_readsShape 58 = .ok (.iload_n 1, 1) := by decide +kernel
theorem dX11_readsShape_59 : decode cX11_readsShape 59 = .ok (.ldc2_w 101, 3) := by decide +kernel
theorem dX11_readsShape_62 : decode cX11_readsShape 62 = .ok (.iconst 5, 1) := by decide +kernel
theorem dX11_readsShape_63 : decode cX11_readsShape 63 = .ok (.invokevirtual 97, 3) := by decide +kernel
theorem dX11_readsShape_66 : decode cX11_readsShape 66 = .ok (.ifCond .eq 7, 3) := by decide +kernel
theorem dX11_readsShape_69 : decode cX11_readsShape 69 = .ok (.iconst 1, 1) := by decide +kernel
theorem dX11_readsShape_70 : decode cX11_readsShape 70 = .ok (.goto 37, 3) := by decide +kernel
theorem dX11_readsShape_73 : decode cX11_readsShape 73 = .ok (.aload_n 0, 1) := by decide +kernel
theorem dX11_readsShape_74 : decode cX11_readsShape 74 = .ok (.iload_n 1, 1) := by decide +kernel
theorem dX11_readsShape_75 : decode cX11_readsShape 75 = .ok (.ldc2_w 103, 3) := by decide +kernel
theorem dX11_readsShape_78 : decode cX11_readsShape 78 = .ok (.bipush 7, 2) := by decide +kernel
theorem dX11_readsShape_80 : decode cX11_readsShape 80 = .ok (.invokevirtual 97, 3) := by decide +kernel
theorem dX11_readsShape_83 : decode cX11_readsShape 83 = .ok (.ifCond .eq 7, 3) := by decide +kernel
theorem dX11_readsShape_86 : decode cX11_readsShape 86 = .ok (.iconst 2, 1) := by decide +kernel
theorem dX11_readsShape_87 : decode cX11_readsShape 87 = .ok (.goto 20, 3) := by decide +kernel
theorem dX11_readsShape_90 : decode cX11_readsShape 90 = .ok (.aload_n 0, 1) := by decide +kernel
theorem dX11_readsShape_91 : decode cX11_readsShape 91 = .ok (.iload_n 1, 1) := by decide +kernel
theorem dX11_readsShape_92 : decode cX11_readsShape 92 = .ok (.ldc2_w 105, 3) := by decide +kernel
theorem dX11_readsShape_95 : decode cX11_readsShape 95 = .ok (.iconst 5, 1) := by decide +kernel
theorem dX11_readsShape_96 : decode cX11_readsShape 96 = .ok (.invokevirtual 97, 3) := by decide +kernel
theorem dX11_readsShape_99 : decode cX11_readsShape 99 = .ok (.ifCond .eq 7, 3) := by decide +kernel
theorem dX11_readsShape_102 : decode cX11_readsShape 102 = .ok (.iconst 3, 1) := by decide +kernel
theorem dX11_readsShape_103 : decode cX11_readsShape 103 = .ok (.goto 4, 3) := by decide +kernel
theorem dX11_readsShape_106 : decode cX11_readsShape 106 = .ok (.iconst (-1), 1) := by decide +kernel
theorem dX11_readsShape_107 : decode cX11_readsShape 107 = .ok (.putfield 107, 3) := by decide +kernel
theorem dX11_readsShape_110 : decode cX11_readsShape 110 = .ok (.aload_n 0, 1) := by decide +kernel
theorem dX11_readsShape_111 : decode cX11_readsShape 111 = .ok (.getfield 107, 3) := by decide +kernel
theorem dX11_readsShape_114 : decode cX11_readsShape 114 = .ok (.iconst (-1), 1) := by decide +kernel
theorem dX11_readsShape_115 : decode cX11_readsShape 115 = .ok (.if_icmp .ne 9, 3) := by decide +kernel
theorem dX11_readsShape_118 : decode cX11_readsShape 118 = .ok (.aload_n 0, 1) := by decide +kernel
theorem dX11_readsShape_119 : decode cX11_readsShape 119 = .ok (.iload_n 1, 1) := by decide +kernel
theorem dX11_readsShape_120 : decode cX11_readsShape 120 = .ok (.putfield 83, 3) := by decide +kernel
theorem dX11_readsShape_123 : decode cX11_readsShape 123 = .ok (.return_, 1) := by decide +kernel
theorem dX11_readsShape_124 : decode cX11_readsShape 124 = .ok (.aload_n 0, 1) := by decide +kernel
theorem dX11_readsShape_125 : decode cX11_readsShape 125 = .ok (.invokevirtual 76, 3) := by decide +kernel
theorem dX11_readsShape_128 : decode cX11_readsShape 128 = .ok (.aload_n 0, 1) := by decide +kernel
theorem dX11_readsShape_129 : decode cX11_readsShape 129 = .ok (.aload_n 0, 1) := by decide +kernel
theorem dX11_readsShape_130 : decode cX11_readsShape 130 = .ok (.getfield 69, 3) := by decide +kernel
theorem dX11_readsShape_133 : decode cX11_readsShape 133 = .ok (.aload_n 0, 1) := by decide +kernel
theorem dX11_readsShape_134 : decode cX11_readsShape 134 = .ok (.getfield 66, 3) := by decide +kernel
theorem dX11_readsShape_137 : decode cX11_readsShape 137 = .ok (.if_icmp .ge 10, 3) := by decide +kernel
theorem dX11_readsShape_140 : decode cX11_readsShape 140 = .ok (.aload_n 0, 1) := by decide +kernel
theorem dX11_readsShape_141 : decode cX11_readsShape 141 = .ok (.getfield 69, 3) := by decide +kernel
theorem dX11_readsShape_144 : decode cX11_readsShape 144 = .ok (.goto 4, 3) := by decide +kernel
theorem dX11_readsShape_147 : decode cX11_readsShape 147 = .ok (.iconst (-1), 1) := by decide +kernel
theorem dX11_readsShape_148 : decode cX11_readsShape 148 = .ok (.putfield 83, 3) := by decide +kernel
theorem dX11_readsShape_151 : decode cX11_readsShape 151 = .ok (.return_, 1) := by decide +kernel
theorem dX11_fault_0 : decode cX11_fault 0 = .ok (.iload_n 1, 1) := by decide +kernel
theorem dX11_fault_1 : decode cX11_fault 1 = .ok (.ifCond .eq 10, 3) := by decide +kernel
theorem dX11_fault_4 : decode cX11_fault 4 = .ok (.aload_n 0, 1) := by decide +kernel
theorem dX11_fault_5 : decode cX11_fault 5 = .ok (.invokevirtual 110, 3) := by decide +kernel
theorem dX11_fault_8 : decode cX11_fault 8 = .ok (.goto 7, 3) := by decide +kernel
theorem dX11_fault_11 : decode cX11_fault 11 = .ok (.aload_n 0, 1) := by decide +kernel
theorem dX11_fault_12 : decode cX11_fault 12 = .ok (.invokevirtual 113, 3) := by decide +kernel
theorem dX11_fault_15 : decode cX11_fault 15 = .ok (.aload_n 0, 1) := by decide +kernel
theorem dX11_fault_16 : decode cX11_fault 16 = .ok (.getfield 83, 3) := by decide +kernel
theorem dX11_fault_19 : decode cX11_fault 19 = .ok (.ireturn, 1) := by decide +kernel
theorem dX11_isLine_0 : decode cX11_isLine 0 = .ok (.iload_n 1, 1) := by decide +kernel
theorem dX11_isLine_1 : decode cX11_isLine 1 = .ok (.iconst 0, 1) := by decide +kernel
theorem dX11_isLine_2 : decode cX11_isLine 2 = .ok (.aload_n 0, 1) := by decide +kernel
theorem dX11_isLine_3 : decode cX11_isLine 3 = .ok (.getfield 7, 3) := by decide +kernel
theorem dX11_isLine_6 : decode cX11_isLine 6 = .ok (.sipush 2040, 3) := by decide +kernel
theorem dX11_isLine_9 : decode cX11_isLine 9 = .ok (.iaload, 1) := by decide +kernel
theorem dX11_isLine_10 : decode cX11_isLine 10 = .ok (.iconst 1, 1) := by decide +kernel
theorem dX11_isLine_11 : decode cX11_isLine 11 = .ok (.isub, 1) := by decide +kernel
theorem dX11_isLine_12 : decode cX11_isLine 12 = .ok (.invokestatic 62, 3) := by decide +kernel
theorem dX11_isLine_15 : decode cX11_isLine 15 = .ok (.ireturn, 1) := by decide +kernel
theorem dX11_of_0 : decode cX11_of 0 = .ok (.aload_n 0, 1) := by decide +kernel
theorem dX11_of_1 : decode cX11_of 1 = .ok (.getfield 7, 3) := by decide +kernel
theorem dX11_of_4 : decode cX11_of 4 = .ok (.bipush 85, 2) := by decide +kernel
theorem dX11_of_6 : decode cX11_of 6 = .ok (.iload_n 1, 1) := by decide +kernel
theorem dX11_of_7 : decode cX11_of 7 = .ok (.imul, 1) := by decide +kernel
theorem dX11_of_8 : decode cX11_of 8 = .ok (.iload_n 2, 1) := by decide +kernel
theorem dX11_of_9 : decode cX11_of 9 = .ok (.iadd, 1) := by decide +kernel
theorem dX11_of_10 : decode cX11_of 10 = .ok (.iaload, 1) := by decide +kernel
theorem dX11_of_11 : decode cX11_of 11 = .ok (.ireturn, 1) := by decide +kernel
theorem dX11_copies_0 : decode cX11_copies 0 = .ok (.iconst 0, 1) := by decide +kernel
theorem dX11_copies_1 : decode cX11_copies 1 = .ok (.istore_n 3, 1) := by decide +kernel
theorem dX11_copies_2 : decode cX11_copies 2 = .ok (.iload_n 3, 1) := by decide +kernel
theorem dX11_copies_3 : decode cX11_copies 3 = .ok (.bipush 85, 2) := by decide +kernel
theorem dX11_copies_5 : decode cX11_copies 5 = .ok (.if_icmp .ge 31, 3) := by decide +kernel
theorem dX11_copies_8 : decode cX11_copies 8 = .ok (.aload_n 0, 1) := by decide +kernel
theorem dX11_copies_9 : decode cX11_copies 9 = .ok (.getfield 7, 3) := by decide +kernel
theorem dX11_copies_12 : decode cX11_copies 12 = .ok (.bipush 85, 2) := by decide +kernel
theorem dX11_copies_14 : decode cX11_copies 14 = .ok (.iload_n 2, 1) := by decide +kernel
theorem dX11_copies_15 : decode cX11_copies 15 = .ok (.imul, 1) := by decide +kernel
theorem dX11_copies_16 : decode cX11_copies 16 = .ok (.iload_n 3, 1) := by decide +kernel
theorem dX11_copies_17 : decode cX11_copies 17 = .ok (.iadd, 1) := by decide +kernel
theorem dX11_copies_18 : decode cX11_copies 18 = .ok (.aload_n 0, 1) := by decide +kernel
theorem dX11_copies_19 : decode cX11_copies 19 = .ok (.getfield 7, 3) := by decide +kernel
theorem dX11_copies_22 : decode cX11_copies 22 = .ok (.bipush 85, 2) := by decide +kernel
theorem dX11_copies_24 : decode cX11_copies 24 = .ok (.iload_n 1, 1) := by decide +kernel
theorem dX11_copies_25 : decode cX11_copies 25 = .ok (.imul, 1) := by decide +kernel
theorem dX11_copies_26 : decode cX11_copies 26 = .ok (.iload_n 3, 1) := by decide +kernel
theorem dX11_copies_27 : decode cX11_copies 27 = .ok (.iadd, 1) := by decide +kernel
theorem dX11_copies_28 : decode cX11_copies 28 = .ok (.iaload, 1) := by decide +kernel
theorem dX11_copies_29 : decode cX11_copies 29 = .ok (.iastore, 1) := by decide +kernel
theorem dX11_copies_30 : decode cX11_copies 30 = .ok (.iinc 3 1, 3) := by decide +kernel
theorem dX11_copies_33 : decode cX11_copies 33 = .ok (.goto (-31), 3) := by decide +kernel
theorem dX11_copies_36 : decode cX11_copies 36 = .ok (.return_, 1) := by decide +kernel
theorem dX11_lays_0 : decode cX11_lays 0 = .ok (.iconst 0, 1) := by decide +kernel
theorem dX11_lays_1 : decode cX11_lays 1 = .ok (.istore_n 2, 1) := by decide +kernel
theorem dX11_lays_2 : decode cX11_lays 2 = .ok (.iload_n 2, 1) := by decide +kernel
theorem dX11_lays_3 : decode cX11_lays 3 = .ok (.bipush 85, 2) := by decide +kernel
theorem dX11_lays_5 : decode cX11_lays 5 = .ok (.if_icmp .ge 26, 3) := by decide +kernel
theorem dX11_lays_8 : decode cX11_lays 8 = .ok (.aload_n 0, 1) := by decide +kernel
theorem dX11_lays_9 : decode cX11_lays 9 = .ok (.getfield 7, 3) := by decide +kernel
theorem dX11_lays_12 : decode cX11_lays 12 = .ok (.bipush 85, 2) := by decide +kernel
theorem dX11_lays_14 : decode cX11_lays 14 = .ok (.iload_n 1, 1) := by decide +kernel
theorem dX11_lays_15 : decode cX11_lays 15 = .ok (.imul, 1) := by decide +kernel
theorem dX11_lays_16 : decode cX11_lays 16 = .ok (.iload_n 2, 1) := by decide +kernel
theorem dX11_lays_17 : decode cX11_lays 17 = .ok (.iadd, 1) := by decide +kernel
theorem dX11_lays_18 : decode cX11_lays 18 = .ok (.aload_n 0, 1) := by decide +kernel
theorem dX11_lays_19 : decode cX11_lays 19 = .ok (.getfield 19, 3) := by decide +kernel
theorem dX11_lays_22 : decode cX11_lays 22 = .ok (.iload_n 2, 1) := by decide +kernel
theorem dX11_lays_23 : decode cX11_lays 23 = .ok (.iaload, 1) := by decide +kernel
theorem dX11_lays_24 : decode cX11_lays 24 = .ok (.iastore, 1) := by decide +kernel
theorem dX11_lays_25 : decode cX11_lays 25 = .ok (.iinc 2 1, 3) := by decide +kernel
theorem dX11_lays_28 : decode cX11_lays 28 = .ok (.goto (-26), 3) := by decide +kernel
theorem dX11_lays_31 : decode cX11_lays 31 = .ok (.return_, 1) := by decide +kernel
theorem dX11_insert_0 : decode cX11_insert 0 = .ok (.iload_n 1, 1) := by decide +kernel
theorem dX11_insert_1 : decode cX11_insert 1 = .ok (.iconst 0, 1) := by decide +kernel
theorem dX11_insert_2 : decode cX11_insert 2 = .ok (.aload_n 0, 1) := by decide +kernel
theorem dX11_insert_3 : decode cX11_insert 3 = .ok (.getfield 7, 3) := by decide +kernel
theorem dX11_insert_6 : decode cX11_insert 6 = .ok (.sipush 2040, 3) := by decide +kernel
theorem dX11_insert_9 : decode cX11_insert 9 = .ok (.iaload, 1) := by decide +kernel
theorem dX11_insert_10 : decode cX11_insert 10 = .ok (.invokestatic 62, 3) := by decide +kernel
theorem dX11_insert_13 : decode cX11_insert 13 = .ok (.ifCond .ne 6, 3) := by decide +kernel
theorem dX11_insert_16 : decode cX11_insert 16 = .ok (.bipush (-2), 2) := by decide +kernel
theorem dX11_insert_18 : decode cX11_insert 18 = .ok (.ireturn, 1) := by decide +kernel
theorem dX11_insert_19 : decode cX11_insert 19 = .ok (.aload_n 0, 1) := by decide +kernel
theorem dX11_insert_20 : decode cX11_insert 20 = .ok (.invokevirtual 113, 3) := by decide +kernel
theorem dX11_insert_23 : decode cX11_insert 23 = .ok (.aload_n 0, 1) := by decide +kernel
theorem dX11_insert_24 : decode cX11_insert 24 = .ok (.getfield 83, 3) := by decide +kernel
theorem dX11_insert_27 : decode cX11_insert 27 = .ok (.iconst (-1), 1) := by decide +kernel
theorem dX11_insert_28 : decode cX11_insert 28 = .ok (.if_icmp .eq 12, 3) := by decide +kernel
theorem dX11_insert_31 : decode cX11_insert 31 = .ok (.sipush (-2000), 3) := by decide +kernel
theorem dX11_insert_34 : decode cX11_insert 34 = .ok (.aload_n 0, 1) := by decide +kernel
theorem dX11_insert_35 : decode cX11_insert 35 = .ok (.getfield 83, 3) := by decide +kernel
theorem dX11_insert_38 : decode cX11_insert 38 = .ok (.isub, 1) := by decide +kernel
theorem dX11_insert_39 : decode cX11_insert 39 = .ok (.ireturn, 1) := by decide +kernel
theorem dX11_insert_40 : decode cX11_insert 40 = .ok (.aload_n 0, 1) := by decide +kernel
theorem dX11_insert_41 : decode cX11_insert 41 = .ok (.getfield 7, 3) := by decide +kernel
theorem dX11_insert_44 : decode cX11_insert 44 = .ok (.sipush 2040, 3) := by decide +kernel
theorem dX11_insert_47 : decode cX11_insert 47 = .ok (.iaload, 1) := by decide +kernel
theorem dX11_insert_48 : decode cX11_insert 48 = .ok (.bipush 24, 2) := by decide +kernel
theorem dX11_insert_50 : decode cX11_insert 50 = .ok (.if_icmp .ne 6, 3) := by decide +kernel
theorem dX11_insert_53 : decode cX11_insert 53 = .ok (.bipush (-4), 2) := by decide +kernel
theorem dX11_insert_55 : decode cX11_insert 55 = .ok (.ireturn, 1) := by decide +kernel
theorem dX11_insert_56 : decode cX11_insert 56 = .ok (.aload_n 0, 1) := by decide +kernel
theorem dX11_insert_57 : decode cX11_insert 57 = .ok (.invokevirtual 116, 3) := by decide +kernel
theorem dX11_insert_60 : decode cX11_insert 60 = .ok (.aload_n 0, 1) := by decide +kernel
theorem dX11_insert_61 : decode cX11_insert 61 = .ok (.getfield 7, 3) := by decide +kernel
theorem dX11_insert_64 : decode cX11_insert 64 = .ok (.sipush 2040, 3) := by decide +kernel
theorem dX11_insert_67 : decode cX11_insert 67 = .ok (.iaload, 1) := by decide +kernel
theorem dX11_insert_68 : decode cX11_insert 68 = .ok (.istore_n 2, 1) := by decide +kernel
theorem dX11_insert_69 : decode cX11_insert 69 = .ok (.iload_n 2, 1) := by decide +kernel
theorem dX11_insert_70 : decode cX11_insert 70 = .ok (.iload_n 1, 1) := by decide +kernel
theorem dX11_insert_71 : decode cX11_insert 71 = .ok (.if_icmp .le 17, 3) := by decide +kernel
theorem dX11_insert_74 : decode cX11_insert 74 = .ok (.aload_n 0, 1) := by decide +kernel
theorem dX11_insert_75 : decode cX11_insert 75 = .ok (.iload_n 2, 1) := by decide +kernel
theorem dX11_insert_76 : decode cX11_insert 76 = .ok (.iconst 1, 1) := by decide +kernel
theorem dX11_insert_77 : decode cX11_insert 77 = .ok (.isub, 1) := by decide +kernel
theorem dX11_insert_78 : decode cX11_insert 78 = .ok (.iload_n 2, 1) := by decide +kernel
theorem dX11_insert_79 : decode cX11_insert 79 = .ok (.invokevirtual 119, 3) := by decide +kernel
theorem dX11_insert_82 : decode cX11_insert 82 = .ok (.iinc 2 (-1), 3) := by decide +kernel
theorem dX11_insert_85 : decode cX11_insert 85 = .ok (.goto (-16), 3) := by decide +kernel
theorem dX11_insert_88 : decode cX11_insert 88 = .ok (.aload_n 0, 1) := by decide +kernel
theorem dX11_insert_89 : decode cX11_insert 89 = .ok (.iload_n 1, 1) := by decide +kernel
theorem dX11_insert_90 : decode cX11_insert 90 = .ok (.invokevirtual 123, 3) := by decide +kernel
theorem dX11_insert_93 : decode cX11_insert 93 = .ok (.aload_n 0, 1) := by decide +kernel
theorem dX11_insert_94 : decode cX11_insert 94 = .ok (.getfield 7, 3) := by decide +kernel
theorem dX11_insert_97 : decode cX11_insert 97 = .ok (.sipush 2040, 3) := by decide +kernel
theorem dX11_insert_100 : decode cX11_insert 100 = .ok (.dup2, 1) := by decide +kernel
theorem dX11_insert_101 : decode cX11_insert 101 = .ok (.iaload, 1) := by decide +kernel
theorem dX11_insert_102 : decode cX11_insert 102 = .ok (.iconst 1, 1) := by decide +kernel
theorem dX11_insert_103 : decode cX11_insert 103 = .ok (.iadd, 1) := by decide +kernel
theorem dX11_insert_104 : decode cX11_insert 104 = .ok (.iastore, 1) := by decide +kernel
theorem dX11_insert_105 : decode cX11_insert 105 = .ok (.aload_n 0, 1) := by decide +kernel
theorem dX11_insert_106 : decode cX11_insert 106 = .ok (.getfield 7, 3) := by decide +kernel
theorem dX11_insert_109 : decode cX11_insert 109 = .ok (.sipush 2040, 3) := by decide +kernel
theorem dX11_insert_112 : decode cX11_insert 112 = .ok (.iaload, 1) := by decide +kernel
theorem dX11_insert_113 : decode cX11_insert 113 = .ok (.ireturn, 1) := by decide +kernel
theorem dX11_replace_0 : decode cX11_replace 0 = .ok (.aload_n 0, 1) := by decide +kernel
theorem dX11_replace_1 : decode cX11_replace 1 = .ok (.iload_n 1, 1) := by decide +kernel
theorem dX11_replace_2 : decode cX11_replace 2 = .ok (.invokevirtual 127, 3) := by decide +kernel
theorem dX11_replace_5 : decode cX11_replace 5 = .ok (.ifCond .ne 6, 3) := by decide +kernel
theorem dX11_replace_8 : decode cX11_replace 8 = .ok (.bipush (-2), 2) := by decide +kernel
theorem dX11_replace_10 : decode cX11_replace 10 = .ok (.ireturn, 1) := by decide +kernel
theorem dX11_replace_11 : decode cX11_replace 11 = .ok (.aload_n 0, 1) := by decide +kernel
theorem dX11_replace_12 : decode cX11_replace 12 = .ok (.invokevirtual 113, 3) := by decide +kernel
theorem dX11_replace_15 : decode cX11_replace 15 = .ok (.aload_n 0, 1) := by decide +kernel
theorem dX11_replace_16 : decode cX11_replace 16 = .ok (.getfield 83, 3) := by decide +kernel
theorem dX11_replace_19 : decode cX11_replace 19 = .ok (.iconst (-1), 1) := by decide +kernel
theorem dX11_replace_20 : decode cX11_replace 20 = .ok (.if_icmp .eq 12, 3) := by decide +kernel
theorem dX11_replace_23 : decode cX11_replace 23 = .ok (.sipush (-2000), 3) := by decide +kernel
theorem dX11_replace_26 : decode cX11_replace 26 = .ok (.aload_n 0, 1) := by decide +kernel
theorem dX11_replace_27 : decode cX11_replace 27 = .ok (.getfield 83, 3) := by decide +kernel
theorem dX11_replace_30 : decode cX11_replace 30 = .ok (.isub, 1) := by decide +kernel
theorem dX11_replace_31 : decode cX11_replace 31 = .ok (.ireturn, 1) := by decide +kernel
theorem dX11_replace_32 : decode cX11_replace 32 = .ok (.aload_n 0, 1) := by decide +kernel
theorem dX11_replace_33 : decode cX11_replace 33 = .ok (.invokevirtual 116, 3) := by decide +kernel
theorem dX11_replace_36 : decode cX11_replace 36 = .ok (.aload_n 0, 1) := by decide +kernel
theorem dX11_replace_37 : decode cX11_replace 37 = .ok (.iload_n 1, 1) := by decide +kernel
theorem dX11_replace_38 : decode cX11_replace 38 = .ok (.iconst 1, 1) := by decide +kernel
theorem dX11_replace_39 : decode cX11_replace 39 = .ok (.invokevirtual 130, 3) := by decide +kernel
theorem dX11_replace_42 : decode cX11_replace 42 = .ok (.istore_n 2, 1) := by decide +kernel
theorem dX11_replace_43 : decode cX11_replace 43 = .ok (.aload_n 0, 1) := by decide +kernel
theorem dX11_replace_44 : decode cX11_replace 44 = .ok (.iload_n 1, 1) := by decide +kernel
theorem dX11_replace_45 : decode cX11_replace 45 = .ok (.invokevirtual 123, 3) := by decide +kernel
theorem dX11_replace_48 : decode cX11_replace 48 = .ok (.iload_n 2, 1) := by decide +kernel
theorem dX11_replace_49 : decode cX11_replace 49 = .ok (.ireturn, 1) := by decide +kernel
theorem dX11_drops_0 : decode cX11_drops 0 = .ok (.aload_n 0, 1) := by decide +kernel
theorem dX11_drops_1 : decode cX11_drops 1 = .ok (.getfield 7, 3) := by decide +kernel
theorem dX11_drops_4 : decode cX11_drops 4 = .ok (.sipush 2040, 3) := by decide +kernel
theorem dX11_drops_7 : decode cX11_drops 7 = .ok (.dup2, 1) := by decide +kernel
theorem dX11_drops_8 : decode cX11_drops 8 = .ok (.iaload, 1) := by decide +kernel
theorem dX11_drops_9 : decode cX11_drops 9 = .ok (.iconst 1, 1) := by decide +kernel
theorem dX11_drops_10 : decode cX11_drops 10 = .ok (.isub, 1) := by decide +kernel
theorem dX11_drops_11 : decode cX11_drops 11 = .ok (.iastore, 1) := by decide +kernel
theorem dX11_drops_12 : decode cX11_drops 12 = .ok (.iload_n 1, 1) := by decide +kernel
theorem dX11_drops_13 : decode cX11_drops 13 = .ok (.istore_n 2, 1) := by decide +kernel
theorem dX11_drops_14 : decode cX11_drops 14 = .ok (.iload_n 2, 1) := by decide +kernel
theorem dX11_drops_15 : decode cX11_drops 15 = .ok (.aload_n 0, 1) := by decide +kernel
theorem dX11_drops_16 : decode cX11_drops 16 = .ok (.getfield 7, 3) := by decide +kernel
theorem dX11_drops_19 : decode cX11_drops 19 = .ok (.sipush 2040, 3) := by decide +kernel
theorem dX11_drops_22 : decode cX11_drops 22 = .ok (.iaload, 1) := by decide +kernel
theorem dX11_drops_23 : decode cX11_drops 23 = .ok (.if_icmp .ge 17, 3) := by decide +kernel
theorem dX11_drops_26 : decode cX11_drops 26 = .ok (.aload_n 0, 1) := by decide +kernel
theorem dX11_drops_27 : decode cX11_drops 27 = .ok (.iload_n 2, 1) := by decide +kernel
theorem dX11_drops_28 : decode cX11_drops 28 = .ok (.iconst 1, 1) := by decide +kernel
theorem dX11_drops_29 : decode cX11_drops 29 = .ok (.iadd, 1) := by decide +kernel
theorem dX11_drops_30 : decode cX11_drops 30 = .ok (.iload_n 2, 1) := by decide +kernel
theorem dX11_drops_31 : decode cX11_drops 31 = .ok (.invokevirtual 119, 3) := by decide +kernel
theorem dX11_drops_34 : decode cX11_drops 34 = .ok (.iinc 2 1, 3) := by decide +kernel
theorem dX11_drops_37 : decode cX11_drops 37 = .ok (.goto (-23), 3) := by decide +kernel
theorem dX11_drops_40 : decode cX11_drops 40 = .ok (.return_, 1) := by decide +kernel
theorem dX11_remove_0 : decode cX11_remove 0 = .ok (.aload_n 0, 1) := by decide +kernel
theorem dX11_remove_1 : decode cX11_remove 1 = .ok (.iload_n 1, 1) := by decide +kernel
theorem dX11_remove_2 : decode cX11_remove 2 = .ok (.invokevirtual 127, 3) := by decide +kernel
theorem dX11_remove_5 : decode cX11_remove 5 = .ok (.ifCond .ne 6, 3) := by decide +kernel
theorem dX11_remove_8 : decode cX11_remove 8 = .ok (.bipush (-2), 2) := by decide +kernel
theorem dX11_remove_10 : decode cX11_remove 10 = .ok (.ireturn, 1) := by decide +kernel
theorem dX11_remove_11 : decode cX11_remove 11 = .ok (.aload_n 0, 1) := by decide +kernel
theorem dX11_remove_12 : decode cX11_remove 12 = .ok (.invokevirtual 116, 3) := by decide +kernel
theorem dX11_remove_15 : decode cX11_remove 15 = .ok (.aload_n 0, 1) := by decide +kernel
theorem dX11_remove_16 : decode cX11_remove 16 = .ok (.iload_n 1, 1) := by decide +kernel
theorem dX11_remove_17 : decode cX11_remove 17 = .ok (.invokevirtual 134, 3) := by decide +kernel
theorem dX11_remove_20 : decode cX11_remove 20 = .ok (.aload_n 0, 1) := by decide +kernel
theorem dX11_remove_21 : decode cX11_remove 21 = .ok (.getfield 7, 3) := by decide +kernel
theorem dX11_remove_24 : decode cX11_remove 24 = .ok (.sipush 2040, 3) := by decide +kernel
theorem dX11_remove_27 : decode cX11_remove 27 = .ok (.iaload, 1) := by decide +kernel
theorem dX11_remove_28 : decode cX11_remove 28 = .ok (.ireturn, 1) := by decide +kernel
theorem dX11_move_0 : decode cX11_move 0 = .ok (.aload_n 0, 1) := by decide +kernel
theorem dX11_move_1 : decode cX11_move 1 = .ok (.iload_n 1, 1) := by decide +kernel
theorem dX11_move_2 : decode cX11_move 2 = .ok (.invokevirtual 127, 3) := by decide +kernel
theorem dX11_move_5 : decode cX11_move 5 = .ok (.ifCond .eq 39, 3) := by decide +kernel
theorem dX11_move_8 : decode cX11_move 8 = .ok (.iload_n 2, 1) := by decide +kernel
theorem dX11_move_9 : decode cX11_move 9 = .ok (.iconst 1, 1) := by decide +kernel
theorem dX11_move_10 : decode cX11_move 10 = .ok (.aload_n 0, 1) := by decide +kernel
theorem dX11_move_11 : decode cX11_move 11 = .ok (.getfield 7, 3) := by decide +kernel
theorem dX11_move_14 : decode cX11_move 14 = .ok (.sipush 2040, 3) := by decide +kernel
theorem dX11_move_17 : decode cX11_move 17 = .ok (.iaload, 1) := by decide +kernel
theorem dX11_move_18 : decode cX11_move 18 = .ok (.iload_n 1, 1) := by decide +kernel
theorem dX11_move_19 : decode cX11_move 19 = .ok (.isub, 1) := by decide +kernel
theorem dX11_move_20 : decode cX11_move 20 = .ok (.invokestatic 62, 3) := by decide +kernel
theorem dX11_move_23 : decode cX11_move 23 = .ok (.ifCond .eq 21, 3) := by decide +kernel
theorem dX11_move_26 : decode cX11_move 26 = .ok (.iload_n 3, 1) := by decide +kernel
theorem dX11_move_27 : decode cX11_move 27 = .ok (.iconst 0, 1) := by decide +kernel
theorem dX11_move_28 : decode cX11_move 28 = .ok (.aload_n 0, 1) := by decide +kernel
theorem dX11_move_29 : decode cX11_move 29 = .ok (.getfield 7, 3) := by decide +kernel
theorem dX11_move_32 : decode cX11_move 32 = .ok (.sipush 2040, 3) := by decide +kernel
theorem dX11_move_35 : decode cX11_move 35 = .ok (.iaload, 1) := by decide +kernel
theorem dX11_move_36 : decode cX11_move 36 = .ok (.iload_n 2, 1) := by decide +kernel
theorem dX11_move_37 : decode cX11_move 37 = .ok (.isub, 1) := by decide +kernel
theorem dX11_move_38 : decode cX11_move 38 = .ok (.invokestatic 62, 3) := by decide +kernel
theorem dX11_move_41 : decode cX11_move 41 = .ok (.ifCond .ne 6, 3) := by decide +kernel
theorem dX11_move_44 : decode cX11_move 44 = .ok (.bipush (-2), 2) := by decide +kernel
theorem dX11_move_46 : decode cX11_move 46 = .ok (.ireturn, 1) := by decide +kernel
theorem dX11_move_47 : decode cX11_move 47 = .ok (.aload_n 0, 1) := by decide +kernel
theorem dX11_move_48 : decode cX11_move 48 = .ok (.invokevirtual 116, 3) := by decide +kernel
theorem dX11_move_51 : decode cX11_move 51 = .ok (.iconst 0, 1) := by decide +kernel
theorem dX11_move_52 : decode cX11_move 52 = .ok (.istore 4, 2) := by decide +kernel
theorem dX11_move_54 : decode cX11_move 54 = .ok (.iload 4, 2) := by decide +kernel
theorem dX11_move_56 : decode cX11_move 56 = .ok (.iload_n 2, 1) := by decide +kernel
theorem dX11_move_57 : decode cX11_move 57 = .ok (.if_icmp .ge 134, 3) := by decide +kernel
theorem dX11_move_60 : decode cX11_move 60 = .ok (.iload_n 3, 1) := by decide +kernel
theorem dX11_move_61 : decode cX11_move 61 = .ok (.iload_n 1, 1) := by decide +kernel
theorem dX11_move_62 : decode cX11_move 62 = .ok (.if_icmp .ge 10, 3) := by decide +kernel
theorem dX11_move_65 : decode cX11_move 65 = .ok (.iload_n 1, 1) := by decide +kernel
theorem dX11_move_66 : decode cX11_move 66 = .ok (.iload 4, 2) := by decide +kernel
theorem dX11_move_68 : decode cX11_move 68 = .ok (.iadd, 1) := by decide +kernel
theorem dX11_move_69 : decode cX11_move 69 = .ok (.goto 4, 3) := by decide +kernel
theorem dX11_move_72 : decode cX11_move 72 = .ok (.iload_n 1, 1) := by decide +kernel
theorem dX11_move_73 : decode cX11_move 73 = .ok (.istore 5, 2) := by decide +kernel
theorem dX11_move_75 : decode cX11_move 75 = .ok (.iload_n 3, 1) := by decide +kernel
theorem dX11_move_76 : decode cX11_move 76 = .ok (.iload_n 1, 1) := by decide +kernel
theorem dX11_move_77 : decode cX11_move 77 = .ok (.if_icmp .ge 10, 3) := by decide +kernel
theorem dX11_move_80 : decode cX11_move 80 = .ok (.iload_n 3, 1) := by decide +kernel
theorem dX11_move_81 : decode cX11_move 81 = .ok (.iload 4, 2) := by decide +kernel
theorem dX11_move_83 : decode cX11_move 83 = .ok (.iadd, 1) := by decide +kernel
theorem dX11_move_84 : decode cX11_move 84 = .ok (.goto 8, 3) := by decide +kernel
theorem dX11_move_87 : decode cX11_move 87 = .ok (.iload_n 3, 1) := by decide +kernel
theorem dX11_move_88 : decode cX11_move 88 = .ok (.iload_n 2, 1) := by decide +kernel
theorem dX11_move_89 : decode cX11_move 89 = .ok (.iadd, 1) := by decide +kernel
theorem dX11_move_90 : decode cX11_move 90 = .ok (.iconst 1, 1) := by decide +kernel
theorem dX11_move_91 : decode cX11_move 91 = .ok (.isub, 1) := by decide +kernel
theorem dX11_move_92 : decode cX11_move 92 = .ok (.istore 6, 2) := by decide +kernel
theorem dX11_move_94 : decode cX11_move 94 = .ok (.iconst 0, 1) := by decide +kernel
theorem dX11_move_95 : decode cX11_move 95 = .ok (.istore 7, 2) := by decide +kernel
theorem dX11_move_97 : decode cX11_move 97 = .ok (.iload 7, 2) := by decide +kernel
theorem dX11_move_99 : decode cX11_move 99 = .ok (.bipush 85, 2) := by decide +kernel
theorem dX11_move_101 : decode cX11_move 101 = .ok (.if_icmp .ge 24, 3) := by decide +kernel
theorem dX11_move_104 : decode cX11_move 104 = .ok (.aload_n 0, 1) := by decide +kernel
theorem dX11_move_105 : decode cX11_move 105 = .ok (.getfield 19, 3) := by decide +kernel
theorem dX11_move_108 : decode cX11_move 108 = .ok (.iload 7, 2) := by decide +kernel
theorem dX11_move_110 : decode cX11_move 110 = .ok (.aload_n 0, 1) := by decide +kernel
theorem dX11_move_111 : decode cX11_move 111 = .ok (.iload 5, 2) := by decide +kernel
theorem dX11_move_113 : decode cX11_move 113 = .ok (.iload 7, 2) := by decide +kernel
theorem dX11_move_115 : decode cX11_move 115 = .ok (.invokevirtual 130, 3) := by decide +kernel
theorem dX11_move_118 : decode cX11_move 118 = .ok (.iastore, 1) := by decide +kernel
theorem dX11_move_119 : decode cX11_move 119 = .ok (.iinc 7 1, 3) := by decide +kernel
theorem dX11_move_122 : decode cX11_move 122 = .ok (.goto (-25), 3) := by decide +kernel
theorem dX11_move_125 : decode cX11_move 125 = .ok (.iload 5, 2) := by decide +kernel
theorem dX11_move_127 : decode cX11_move 127 = .ok (.istore 7, 2) := by decide +kernel
theorem dX11_move_129 : decode cX11_move 129 = .ok (.iload 7, 2) := by decide +kernel
theorem dX11_move_131 : decode cX11_move 131 = .ok (.iload 6, 2) := by decide +kernel
theorem dX11_move_133 : decode cX11_move 133 = .ok (.if_icmp .le 19, 3) := by decide +kernel
theorem dX11_move_136 : decode cX11_move 136 = .ok (.aload_n 0, 1) := by decide +kernel
theorem dX11_move_137 : decode cX11_move 137 = .ok (.iload 7, 2) := by decide +kernel
theorem dX11_move_139 : decode cX11_move 139 = .ok (.iconst 1, 1) := by decide +kernel
theorem dX11_move_140 : decode cX11_move 140 = .ok (.isub, 1) := by decide +kernel
theorem dX11_move_141 : decode cX11_move 141 = .ok (.iload 7, 2) := by decide +kernel
theorem dX11_move_143 : decode cX11_move 143 = .ok (.invokevirtual 119, 3) := by decide +kernel
theorem dX11_move_146 : decode cX11_move 146 = .ok (.iinc 7 (-1), 3) := by decide +kernel
theorem dX11_move_149 : decode cX11_move 149 = .ok (.goto (-20), 3) := by decide +kernel
theorem dX11_move_152 : decode cX11_move 152 = .ok (.iload 5, 2) := by decide +kernel
theorem dX11_move_154 : decode cX11_move 154 = .ok (.istore 7, 2) := by decide +kernel
theorem dX11_move_156 : decode cX11_move 156 = .ok (.iload 7, 2) := by decide +kernel
theorem dX11_move_158 : decode cX11_move 158 = .ok (.iload 6, 2) := by decide +kernel
theorem dX11_move_160 : decode cX11_move 160 = .ok (.if_icmp .ge 19, 3) := by decide +kernel
theorem dX11_move_163 : decode cX11_move 163 = .ok (.aload_n 0, 1) := by decide +kernel
theorem dX11_move_164 : decode cX11_move 164 = .ok (.iload 7, 2) := by decide +kernel
theorem dX11_move_166 : decode cX11_move 166 = .ok (.iconst 1, 1) := by decide +kernel
theorem dX11_move_167 : decode cX11_move 167 = .ok (.iadd, 1) := by decide +kernel
theorem dX11_move_168 : decode cX11_move 168 = .ok (.iload 7, 2) := by decide +kernel
theorem dX11_move_170 : decode cX11_move 170 = .ok (.invokevirtual 119, 3) := by decide +kernel
theorem dX11_move_173 : decode cX11_move 173 = .ok (.iinc 7 1, 3) := by decide +kernel
theorem dX11_move_176 : decode cX11_move 176 = .ok (.goto (-20), 3) := by decide +kernel
theorem dX11_move_179 : decode cX11_move 179 = .ok (.aload_n 0, 1) := by decide +kernel
theorem dX11_move_180 : decode cX11_move 180 = .ok (.iload 6, 2) := by decide +kernel
theorem dX11_move_182 : decode cX11_move 182 = .ok (.invokevirtual 123, 3) := by decide +kernel
theorem dX11_move_185 : decode cX11_move 185 = .ok (.iinc 4 1, 3) := by decide +kernel
theorem dX11_move_188 : decode cX11_move 188 = .ok (.goto (-134), 3) := by decide +kernel
theorem dX11_move_191 : decode cX11_move 191 = .ok (.aload_n 0, 1) := by decide +kernel
theorem dX11_move_192 : decode cX11_move 192 = .ok (.invokevirtual 137, 3) := by decide +kernel
theorem dX11_move_195 : decode cX11_move 195 = .ok (.ireturn, 1) := by decide +kernel
theorem dX11_toggle_0 : decode cX11_toggle 0 = .ok (.aload_n 0, 1) := by decide +kernel
theorem dX11_toggle_1 : decode cX11_toggle 1 = .ok (.iload_n 1, 1) := by decide +kernel
theorem dX11_toggle_2 : decode cX11_toggle 2 = .ok (.invokevirtual 127, 3) := by decide +kernel
theorem dX11_toggle_5 : decode cX11_toggle 5 = .ok (.ifCond .ne 6, 3) := by decide +kernel
theorem dX11_toggle_8 : decode cX11_toggle 8 = .ok (.bipush (-2), 2) := by decide +kernel
theorem dX11_toggle_10 : decode cX11_toggle 10 = .ok (.ireturn, 1) := by decide +kernel
theorem dX11_toggle_11 : decode cX11_toggle 11 = .ok (.aload_n 0, 1) := by decide +kernel
theorem dX11_toggle_12 : decode cX11_toggle 12 = .ok (.invokevirtual 116, 3) := by decide +kernel
theorem dX11_toggle_15 : decode cX11_toggle 15 = .ok (.bipush 85, 2) := by decide +kernel
theorem dX11_toggle_17 : decode cX11_toggle 17 = .ok (.iload_n 1, 1) := by decide +kernel
theorem dX11_toggle_18 : decode cX11_toggle 18 = .ok (.imul, 1) := by decide +kernel
theorem dX11_toggle_19 : decode cX11_toggle 19 = .ok (.iload_n 2, 1) := by decide +kernel
theorem dX11_toggle_20 : decode cX11_toggle 20 = .ok (.ifCond .eq 7, 3) := by decide +kernel
theorem dX11_toggle_23 : decode cX11_toggle 23 = .ok (.iconst 3, 1) := by decide +kernel
theorem dX11_toggle_24 : decode cX11_toggle 24 = .ok (.goto 4, 3) := by decide +kernel
theorem dX11_toggle_27 : decode cX11_toggle 27 = .ok (.iconst 4, 1) := by decide +kernel
theorem dX11_toggle_28 : decode cX11_toggle 28 = .ok (.iadd, 1) := by decide +kernel
theorem dX11_toggle_29 : decode cX11_toggle 29 = .ok (.istore_n 3, 1) := by decide +kernel
theorem dX11_toggle_30 : decode cX11_toggle 30 = .ok (.aload_n 0, 1) := by decide +kernel
theorem dX11_toggle_31 : decode cX11_toggle 31 = .ok (.getfield 7, 3) := by decide +kernel
theorem dX11_toggle_34 : decode cX11_toggle 34 = .ok (.iload_n 3, 1) := by decide +kernel
theorem dX11_toggle_35 : decode cX11_toggle 35 = .ok (.iconst 1, 1) := by decide +kernel
theorem dX11_toggle_36 : decode cX11_toggle 36 = .ok (.aload_n 0, 1) := by decide +kernel
theorem dX11_toggle_37 : decode cX11_toggle 37 = .ok (.getfield 7, 3) := by decide +kernel
theorem dX11_toggle_40 : decode cX11_toggle 40 = .ok (.iload_n 3, 1) := by decide +kernel
theorem dX11_toggle_41 : decode cX11_toggle 41 = .ok (.iaload, 1) := by decide +kernel
theorem dX11_toggle_42 : decode cX11_toggle 42 = .ok (.isub, 1) := by decide +kernel
theorem dX11_toggle_43 : decode cX11_toggle 43 = .ok (.iastore, 1) := by decide +kernel
theorem dX11_toggle_44 : decode cX11_toggle 44 = .ok (.aload_n 0, 1) := by decide +kernel
theorem dX11_toggle_45 : decode cX11_toggle 45 = .ok (.getfield 7, 3) := by decide +kernel
theorem dX11_toggle_48 : decode cX11_toggle 48 = .ok (.iload_n 3, 1) := by decide +kernel
theorem dX11_toggle_49 : decode cX11_toggle 49 = .ok (.iaload, 1) := by decide +kernel
theorem dX11_toggle_50 : decode cX11_toggle 50 = .ok (.ireturn, 1) := by decide +kernel
theorem dX11_beginsStanza_0 : decode cX11_beginsStanza 0 = .ok (.iload_n 1, 1) := by decide +kernel
theorem dX11_beginsStanza_1 : decode cX11_beginsStanza 1 = .ok (.ifCond .eq 15, 3) := by decide +kernel
theorem dX11_beginsStanza_4 : decode cX11_beginsStanza 4 = .ok (.aload_n 0, 1) := by decide +kernel
theorem dX11_beginsStanza_5 : decode cX11_beginsStanza 5 = .ok (.iload_n 1, 1) := by decide +kernel
theorem dX11_beginsStanza_6 : decode cX11_beginsStanza 6 = .ok (.iconst 1, 1) := by decide +kernel
theorem dX11_beginsStanza_7 : decode cX11_beginsStanza 7 = .ok (.isub, 1) := by decide +kernel
theorem dX11_beginsStanza_8 : decode cX11_beginsStanza 8 = .ok (.iconst 4, 1) := by decide +kernel
theorem dX11_beginsStanza_9 : decode cX11_beginsStanza 9 = .ok (.invokevirtual 130, 3) := by decide +kernel
theorem dX11_beginsStanza_12 : decode cX11_beginsStanza 12 = .ok (.iconst 1, 1) := by decide +kernel
theorem dX11_beginsStanza_13 : decode cX11_beginsStanza 13 = .ok (.if_icmp .ne 7, 3) := by decide +kernel
theorem dX11_beginsStanza_16 : decode cX11_beginsStanza 16 = .ok (.iconst 1, 1) := by decide +kernel
theorem dX11_beginsStanza_17 : decode cX11_beginsStanza 17 = .ok (.goto 4, 3) := by decide +kernel
theorem dX11_beginsStanza_20 : decode cX11_beginsStanza 20 = .ok (.iconst 0, 1) := by decide +kernel
theorem dX11_beginsStanza_21 : decode cX11_beginsStanza 21 = .ok (.ireturn, 1) := by decide +kernel
theorem dX11_leans_0 : decode cX11_leans 0 = .ok (.aload_n 0, 1) := by decide +kernel
theorem dX11_leans_1 : decode cX11_leans 1 = .ok (.iload_n 1, 1) := by decide +kernel
theorem dX11_leans_2 : decode cX11_leans 2 = .ok (.iconst 3, 1) := by decide +kernel
theorem dX11_leans_3 : decode cX11_leans 3 = .ok (.invokevirtual 130, 3) := by decide +kernel
theorem dX11_leans_6 : decode cX11_leans 6 = .ok (.iconst 1, 1) := by decide +kernel
theorem dX11_leans_7 : decode cX11_leans 7 = .ok (.if_icmp .ne 15, 3) := by decide +kernel
theorem dX11_leans_10 : decode cX11_leans 10 = .ok (.aload_n 0, 1) := by decide +kernel
theorem dX11_leans_11 : decode cX11_leans 11 = .ok (.iload_n 1, 1) := by decide +kernel
theorem dX11_leans_12 : decode cX11_leans 12 = .ok (.invokevirtual 140, 3) := by decide +kernel
theorem dX11_leans_15 : decode cX11_leans 15 = .ok (.ifCond .ne 7, 3) := by decide +kernel
theorem dX11_leans_18 : decode cX11_leans 18 = .ok (.iconst 1, 1) := by decide +kernel
theorem dX11_leans_19 : decode cX11_leans 19 = .ok (.goto 4, 3) := by decide +kernel
theorem dX11_leans_22 : decode cX11_leans 22 = .ok (.iconst 0, 1) := by decide +kernel
theorem dX11_leans_23 : decode cX11_leans 23 = .ok (.ireturn, 1) := by decide +kernel
theorem dX11_stanzaOf_0 : decode cX11_stanzaOf 0 = .ok (.iconst (-1), 1) := by decide +kernel
theorem dX11_stanzaOf_1 : decode cX11_stanzaOf 1 = .ok (.istore_n 2, 1) := by decide +kernel
theorem dX11_stanzaOf_2 : decode cX11_stanzaOf 2 = .ok (.iconst 0, 1) := by decide +kernel
theorem dX11_stanzaOf_3 : decode cX11_stanzaOf 3 = .ok (.istore_n 3, 1) := by decide +kernel
theorem dX11_stanzaOf_4 : decode cX11_stanzaOf 4 = .ok (.iload_n 3, 1) := by decide +kernel
theorem dX11_stanzaOf_5 : decode cX11_stanzaOf 5 = .ok (.iload_n 1, 1) := by decide +kernel
theorem dX11_stanzaOf_6 : decode cX11_stanzaOf 6 = .ok (.if_icmp .gt 25, 3) := by decide +kernel
theorem dX11_stanzaOf_9 : decode cX11_stanzaOf 9 = .ok (.iload_n 2, 1) := by decide +kernel
theorem dX11_stanzaOf_10 : decode cX11_stanzaOf 10 = .ok (.aload_n 0, 1) := by decide +kernel
theorem dX11_stanzaOf_11 : decode cX11_stanzaOf 11 = .ok (.iload_n 3, 1) := by decide +kernel
theorem dX11_stanzaOf_12 : decode cX11_stanzaOf 12 = .ok (.invokevirtual 140, 3) := by decide +kernel
theorem dX11_stanzaOf_15 : decode cX11_stanzaOf 15 = .ok (.ifCond .eq 7, 3) := by decide +kernel
theorem dX11_stanzaOf_18 : decode cX11_stanzaOf 18 = .ok (.iconst 1, 1) := by decide +kernel
theorem dX11_stanzaOf_19 : decode cX11_stanzaOf 19 = .ok (.goto 4, 3) := by decide +kernel
theorem dX11_stanzaOf_22 : decode cX11_stanzaOf 22 = .ok (.iconst 0, 1) := by decide +kernel
theorem dX11_stanzaOf_23 : decode cX11_stanzaOf 23 = .ok (.iadd, 1) := by decide +kernel
theorem dX11_stanzaOf_24 : decode cX11_stanzaOf 24 = .ok (.istore_n 2, 1) := by decide +kernel
theorem dX11_stanzaOf_25 : decode cX11_stanzaOf 25 = .ok (.iinc 3 1, 3) := by decide +kernel
theorem dX11_stanzaOf_28 : decode cX11_stanzaOf 28 = .ok (.goto (-24), 3) := by decide +kernel
theorem dX11_stanzaOf_31 : decode cX11_stanzaOf 31 = .ok (.iload_n 2, 1) := by decide +kernel
theorem dX11_stanzaOf_32 : decode cX11_stanzaOf 32 = .ok (.ireturn, 1) := by decide +kernel
theorem dX11_stanzas_0 : decode cX11_stanzas 0 = .ok (.aload_n 0, 1) := by decide +kernel
theorem dX11_stanzas_1 : decode cX11_stanzas 1 = .ok (.getfield 7, 3) := by decide +kernel
theorem dX11_stanzas_4 : decode cX11_stanzas 4 = .ok (.sipush 2040, 3) := by decide +kernel
theorem dX11_stanzas_7 : decode cX11_stanzas 7 = .ok (.iaload, 1) := by decide +kernel
theorem dX11_stanzas_8 : decode cX11_stanzas 8 = .ok (.ifCond .ne 7, 3) := by decide +kernel
theorem dX11_stanzas_11 : decode cX11_stanzas 11 = .ok (.iconst 0, 1) := by decide +kernel
theorem dX11_stanzas_12 : decode cX11_stanzas 12 = .ok (.goto 19, 3) := by decide +kernel
theorem dX11_stanzas_15 : decode cX11_stanzas 15 = .ok (.aload_n 0, 1) := by decide +kernel
theorem dX11_stanzas_16 : decode cX11_stanzas 16 = .ok (.aload_n 0, 1) := by decide +kernel
theorem dX11_stanzas_17 : decode cX11_stanzas 17 = .ok (.getfield 7, 3) := by decide +kernel
theorem dX11_stanzas_20 : decode cX11_stanzas 20 = .ok (.sipush 2040, 3) := by decide +kernel
theorem dX11_stanzas_23 : decode cX11_stanzas 23 = .ok (.iaload, 1) := by decide +kernel
theorem dX11_stanzas_24 : decode cX11_stanzas 24 = .ok (.iconst 1, 1) := by decide +kernel
theorem dX11_stanzas_25 : decode cX11_stanzas 25 = .ok (.isub, 1) := by decide +kernel
theorem dX11_stanzas_26 : decode cX11_stanzas 26 = .ok (.invokevirtual 143, 3) := by decide +kernel
theorem dX11_stanzas_29 : decode cX11_stanzas 29 = .ok (.iconst 1, 1) := by decide +kernel
theorem dX11_stanzas_30 : decode cX11_stanzas 30 = .ok (.iadd, 1) := by decide +kernel
theorem dX11_stanzas_31 : decode cX11_stanzas 31 = .ok (.ireturn, 1) := by decide +kernel
theorem dX11_numberOf_0 : decode cX11_numberOf 0 = .ok (.iconst 0, 1) := by decide +kernel
theorem dX11_numberOf_1 : decode cX11_numberOf 1 = .ok (.istore_n 2, 1) := by decide +kernel
theorem dX11_numberOf_2 : decode cX11_numberOf 2 = .ok (.iconst 0, 1) := by decide +kernel
theorem dX11_numberOf_3 : decode cX11_numberOf 3 = .ok (.istore_n 3, 1) := by decide +kernel
theorem dX11_numberOf_4 : decode cX11_numberOf 4 = .ok (.iload_n 3, 1) := by decide +kernel
theorem dX11_numberOf_5 : decode cX11_numberOf 5 = .ok (.iload_n 1, 1) := by decide +kernel
theorem dX11_numberOf_6 : decode cX11_numberOf 6 = .ok (.if_icmp .gt 25, 3) := by decide +kernel
theorem dX11_numberOf_9 : decode cX11_numberOf 9 = .ok (.iload_n 2, 1) := by decide +kernel
theorem dX11_numberOf_10 : decode cX11_numberOf 10 = .ok (.aload_n 0, 1) := by decide +kernel
theorem dX11_numberOf_11 : decode cX11_numberOf 11 = .ok (.iload_n 3, 1) := by decide +kernel
theorem dX11_numberOf_12 : decode cX11_numberOf 12 = .ok (.invokevirtual 147, 3) := by decide +kernel
theorem dX11_numberOf_15 : decode cX11_numberOf 15 = .ok (.ifCond .eq 7, 3) := by decide +kernel
theorem dX11_numberOf_18 : decode cX11_numberOf 18 = .ok (.iconst 0, 1) := by decide +kernel
theorem dX11_numberOf_19 : decode cX11_numberOf 19 = .ok (.goto 4, 3) := by decide +kernel
theorem dX11_numberOf_22 : decode cX11_numberOf 22 = .ok (.iconst 1, 1) := by decide +kernel
theorem dX11_numberOf_23 : decode cX11_numberOf 23 = .ok (.iadd, 1) := by decide +kernel
theorem dX11_numberOf_24 : decode cX11_numberOf 24 = .ok (.istore_n 2, 1) := by decide +kernel
theorem dX11_numberOf_25 : decode cX11_numberOf 25 = .ok (.iinc 3 1, 3) := by decide +kernel
theorem dX11_numberOf_28 : decode cX11_numberOf 28 = .ok (.goto (-24), 3) := by decide +kernel
theorem dX11_numberOf_31 : decode cX11_numberOf 31 = .ok (.iload_n 2, 1) := by decide +kernel
theorem dX11_numberOf_32 : decode cX11_numberOf 32 = .ok (.ireturn, 1) := by decide +kernel
theorem dX11_begins_0 : decode cX11_begins 0 = .ok (.aload_n 0, 1) := by decide +kernel
theorem dX11_begins_1 : decode cX11_begins 1 = .ok (.getfield 22, 3) := by decide +kernel
theorem dX11_begins_4 : decode cX11_begins 4 = .ok (.aload_n 0, 1) := by decide +kernel
theorem dX11_begins_5 : decode cX11_begins 5 = .ok (.getfield 150, 3) := by decide +kernel
theorem dX11_begins_8 : decode cX11_begins 8 = .ok (.iload_n 1, 1) := by decide +kernel
theorem dX11_begins_9 : decode cX11_begins 9 = .ok (.iastore, 1) := by decide +kernel
theorem dX11_begins_10 : decode cX11_begins 10 = .ok (.aload_n 0, 1) := by decide +kernel
theorem dX11_begins_11 : decode cX11_begins 11 = .ok (.getfield 25, 3) := by decide +kernel
theorem dX11_begins_14 : decode cX11_begins 14 = .ok (.aload_n 0, 1) := by decide +kernel
theorem dX11_begins_15 : decode cX11_begins 15 = .ok (.getfield 150, 3) := by decide +kernel
theorem dX11_begins_18 : decode cX11_begins 18 = .ok (.iload_n 2, 1) := by decide +kernel
theorem dX11_begins_19 : decode cX11_begins 19 = .ok (.iastore, 1) := by decide +kernel
theorem dX11_begins_20 : decode cX11_begins 20 = .ok (.aload_n 0, 1) := by decide +kernel
theorem dX11_begins_21 : decode cX11_begins 21 = .ok (.getfield 28, 3) := by decide +kernel
theorem dX11_begins_24 : decode cX11_begins 24 = .ok (.aload_n 0, 1) := by decide +kernel
theorem dX11_begins_25 : decode cX11_begins 25 = .ok (.getfield 150, 3) := by decide +kernel
theorem dX11_begins_28 : decode cX11_begins 28 = .ok (.iload_n 3, 1) := by decide +kernel
theorem dX11_begins_29 : decode cX11_begins 29 = .ok (.aload_n 0, 1) := by decide +kernel
theorem dX11_begins_30 : decode cX11_begins 30 = .ok (.getfield 7, 3) := by decide +kernel
theorem dX11_begins_33 : decode cX11_begins 33 = .ok (.sipush 2041, 3) := by decide +kernel
theorem dX11_begins_36 : decode cX11_begins 36 = .ok (.iaload, 1) := by decide +kernel
theorem dX11_begins_37 : decode cX11_begins 37 = .ok (.bipush 6, 2) := by decide +kernel
theorem dX11_begins_39 : decode cX11_begins 39 = .ok (.isub, 1) := by decide +kernel
theorem dX11_begins_40 : decode cX11_begins 40 = .ok (.invokestatic 153, 3) := by decide +kernel
theorem dX11_begins_43 : decode cX11_begins 43 = .ok (.iastore, 1) := by decide +kernel
theorem dX11_begins_44 : decode cX11_begins 44 = .ok (.aload_n 0, 1) := by decide +kernel
theorem dX11_begins_45 : decode cX11_begins 45 = .ok (.getfield 31, 3) := by decide +kernel
theorem dX11_begins_48 : decode cX11_begins 48 = .ok (.aload_n 0, 1) := by decide +kernel
theorem dX11_begins_49 : decode cX11_begins 49 = .ok (.getfield 150, 3) := by decide +kernel
theorem dX11_begins_52 : decode cX11_begins 52 = .ok (.iconst 0, 1) := by decide +kernel
theorem dX11_begins_53 : decode cX11_begins 53 = .ok (.iastore, 1) := by decide +kernel
theorem dX11_begins_54 : decode cX11_begins 54 = .ok (.aload_n 0, 1) := by decide +kernel
theorem dX11_begins_55 : decode cX11_begins 55 = .ok (.getfield 37, 3) := by decide +kernel
theorem dX11_begins_58 : decode cX11_begins 58 = .ok (.aload_n 0, 1) := by decide +kernel
theorem dX11_begins_59 : decode cX11_begins 59 = .ok (.getfield 150, 3) := by decide +kernel
theorem dX11_begins_62 : decode cX11_begins 62 = .ok (.iload 4, 2) := by decide +kernel
theorem dX11_begins_64 : decode cX11_begins 64 = .ok (.iastore, 1) := by decide +kernel
theorem dX11_begins_65 : decode cX11_begins 65 = .ok (.aload_n 0, 1) := by decide +kernel
theorem dX11_begins_66 : decode cX11_begins 66 = .ok (.getfield 34, 3) := by decide +kernel
theorem dX11_begins_69 : decode cX11_begins 69 = .ok (.aload_n 0, 1) := by decide +kernel
theorem dX11_begins_70 : decode cX11_begins 70 = .ok (.getfield 150, 3) := by decide +kernel
theorem dX11_begins_73 : decode cX11_begins 73 = .ok (.iload 5, 2) := by decide +kernel
theorem dX11_begins_75 : decode cX11_begins 75 = .ok (.iastore, 1) := by decide +kernel
theorem dX11_begins_76 : decode cX11_begins 76 = .ok (.aload_n 0, 1) := by decide +kernel
theorem dX11_begins_77 : decode cX11_begins 77 = .ok (.dup, 1) := by decide +kernel
theorem dX11_begins_78 : decode cX11_begins 78 = .ok (.getfield 150, 3) := by decide +kernel
theorem dX11_begins_81 : decode cX11_begins 81 = .ok (.iconst 1, 1) := by decide +kernel
theorem dX11_begins_82 : decode cX11_begins 82 = .ok (.iadd, 1) := by decide +kernel
theorem dX11_begins_83 : decode cX11_begins 83 = .ok (.putfield 150, 3) := by decide +kernel
theorem dX11_begins_86 : decode cX11_begins 86 = .ok (.return_, 1) := by decide +kernel
theorem dX11_wordFrom_0 : decode cX11_wordFrom 0 = .ok (.iconst 0, 1) := by decide +kernel
theorem dX11_wordFrom_1 : decode cX11_wordFrom 1 = .ok (.istore_n 3, 1) := by decide +kernel
theorem dX11_wordFrom_2 : decode cX11_wordFrom 2 = .ok (.iload_n 2, 1) := by decide +kernel
theorem dX11_wordFrom_3 : decode cX11_wordFrom 3 = .ok (.iload_n 3, 1) := by decide +kernel
theorem dX11_wordFrom_4 : decode cX11_wordFrom 4 = .ok (.iadd, 1) := by decide +kernel
theorem dX11_wordFrom_5 : decode cX11_wordFrom 5 = .ok (.aload_n 0, 1) := by decide +kernel
theorem dX11_wordFrom_6 : decode cX11_wordFrom 6 = .ok (.iload_n 1, 1) := by decide +kernel
theorem dX11_wordFrom_7 : decode cX11_wordFrom 7 = .ok (.iconst 0, 1) := by decide +kernel
theorem dX11_wordFrom_8 : decode cX11_wordFrom 8 = .ok (.invokevirtual 130, 3) := by decide +kernel
theorem dX11_wordFrom_11 : decode cX11_wordFrom 11 = .ok (.if_icmp .ge 24, 3) := by decide +kernel
theorem dX11_wordFrom_14 : decode cX11_wordFrom 14 = .ok (.aload_n 0, 1) := by decide +kernel
theorem dX11_wordFrom_15 : decode cX11_wordFrom 15 = .ok (.iload_n 1, 1) := by decide +kernel
theorem dX11_wordFrom_16 : decode cX11_wordFrom 16 = .ok (.iconst 5, 1) := by decide +kernel
theorem dX11_wordFrom_17 : decode cX11_wordFrom 17 = .ok (.iload_n 2, 1) := by decide +kernel
theorem dX11_wordFrom_18 : decode cX11_wordFrom 18 = .ok (.iadd, 1) := by decide +kernel
theorem dX11_wordFrom_19 : decode cX11_wordFrom 19 = .ok (.iload_n 3, 1) := by decide +kernel
theorem dX11_wordFrom_20 : decode cX11_wordFrom 20 = .ok (.iadd, 1) := by decide +kernel
theorem dX11_wordFrom_21 : decode cX11_wordFrom 21 = .ok (.invokevirtual 130, 3) := by decide +kernel
theorem dX11_wordFrom_24 : decode cX11_wordFrom 24 = .ok (.bipush 32, 2) := by decide +kernel
theorem dX11_wordFrom_26 : decode cX11_wordFrom 26 = .ok (.if_icmp .eq 9, 3) := by decide +kernel
theorem dX11_wordFrom_29 : decode cX11_wordFrom 29 = .ok (.iinc 3 1, 3) := by decide +kernel
theorem dX11_wordFrom_32 : decode cX11_wordFrom 32 = .ok (.goto (-30), 3) := by decide +kernel
theorem dX11_wordFrom_35 : decode cX11_wordFrom 35 = .ok (.iload_n 3, 1) := by decide +kernel
theorem dX11_wordFrom_36 : decode cX11_wordFrom 36 = .ok (.ireturn, 1) := by decide +kernel
theorem dX11_laysRows_0 : decode cX11_laysRows 0 = .ok (.aload_n 0, 1) := by decide +kernel
theorem dX11_laysRows_1 : decode cX11_laysRows 1 = .ok (.iload_n 1, 1) := by decide +kernel
theorem dX11_laysRows_2 : decode cX11_laysRows 2 = .ok (.iconst 2, 1) := by decide +kernel
theorem dX11_laysRows_3 : decode cX11_laysRows 3 = .ok (.invokevirtual 130, 3) := by decide +kernel
theorem dX11_laysRows_6 : decode cX11_laysRows 6 = .ok (.aload_n 0, 1) := by decide +kernel
theorem dX11_laysRows_7 : decode cX11_laysRows 7 = .ok (.getfield 7, 3) := by decide +kernel
theorem dX11_laysRows_10 : decode cX11_laysRows 10 = .ok (.sipush 2043, 3) := by decide +kernel
theorem dX11_laysRows_13 : decode cX11_laysRows 13 = .ok (.iaload, 1) := by decide +kernel
theorem dX11_laysRows_14 : decode cX11_laysRows 14 = .ok (.imul, 1) := by decide +kernel
theorem dX11_laysRows_15 : decode cX11_laysRows 15 = .ok (.istore_n 2, 1) := by decide +kernel
theorem dX11_laysRows_16 : decode cX11_laysRows 16 = .ok (.aload_n 0, 1) := by decide +kernel
theorem dX11_laysRows_17 : decode cX11_laysRows 17 = .ok (.getfield 150, 3) := by decide +kernel
theorem dX11_laysRows_20 : decode cX11_laysRows 20 = .ok (.istore_n 3, 1) := by decide +kernel
theorem dX11_laysRows_21 : decode cX11_laysRows 21 = .ok (.aload_n 0, 1) := by decide +kernel
theorem dX11_laysRows_22 : decode cX11_laysRows 22 = .ok (.iload_n 1, 1) := by decide +kernel
theorem dX11_laysRows_23 : decode cX11_laysRows 23 = .ok (.iconst 0, 1) := by decide +kernel
theorem dX11_laysRows_24 : decode cX11_laysRows 24 = .ok (.aload_n 0, 1) := by decide +kernel
theorem dX11_laysRows_25 : decode cX11_laysRows 25 = .ok (.iload_n 1, 1) := by decide +kernel
theorem dX11_laysRows_26 : decode cX11_laysRows 26 = .ok (.invokevirtual 147, 3) := by decide +kernel
theorem dX11_laysRows_29 : decode cX11_laysRows 29 = .ok (.ifCond .eq 31, 3) := by decide +kernel
theorem dX11_laysRows_32 : decode cX11_laysRows 32 = .ok (.aload_n 0, 1) := by decide +kernel
theorem dX11_laysRows_33 : decode cX11_laysRows 33 = .ok (.getfield 28, 3) := by decide +kernel
theorem dX11_laysRows_36 : decode cX11_laysRows 36 = .ok (.aload_n 0, 1) := by decide +kernel
theorem dX11_laysRows_37 : decode cX11_laysRows 37 = .ok (.getfield 150, 3) := by decide +kernel
theorem dX11_laysRows_40 : decode cX11_laysRows 40 = .ok (.iconst 1, 1) := by decide +kernel
theorem dX11_laysRows_41 : decode cX11_laysRows 41 = .ok (.isub, 1) := by decide +kernel
theorem dX11_laysRows_42 : decode cX11_laysRows 42 = .ok (.iaload, 1) := by decide +kernel
theorem dX11_laysRows_43 : decode cX11_laysRows 43 = .ok (.aload_n 0, 1) := by decide +kernel
theorem dX11_laysRows_44 : decode cX11_laysRows 44 = .ok (.getfield 31, 3) := by decide +kernel
theorem dX11_laysRows_47 : decode cX11_laysRows 47 = .ok (.aload_n 0, 1) := by decide +kernel
theorem dX11_laysRows_48 : decode cX11_laysRows 48 = .ok (.getfield 150, 3) := by decide +kernel
theorem dX11_laysRows_51 : decode cX11_laysRows 51 = .ok (.iconst 1, 1) := by decide +kernel
theorem dX11_laysRows_52 : decode cX11_laysRows 52 = .ok (.isub, 1) := by decide +kernel
theorem dX11_laysRows_53 : decode cX11_laysRows 53 = .ok (.iaload, 1) := by decide +kernel
theorem dX11_laysRows_54 : decode cX11_laysRows 54 = .ok (.iadd, 1) := by decide +kernel
theorem dX11_laysRows_55 : decode cX11_laysRows 55 = .ok (.iconst 1, 1) := by decide +kernel
theorem dX11_laysRows_56 : decode cX11_laysRows 56 = .ok (.iadd, 1) := by decide +kernel
theorem dX11_laysRows_57 : decode cX11_laysRows 57 = .ok (.goto 4, 3) := by decide +kernel
theorem dX11_laysRows_60 : decode cX11_laysRows 60 = .ok (.iload_n 2, 1) := by decide +kernel
theorem dX11_laysRows_61 : decode cX11_laysRows 61 = .ok (.iconst 0, 1) := by decide +kernel
theorem dX11_laysRows_62 : decode cX11_laysRows 62 = .ok (.iconst 0, 1) := by decide +kernel
theorem dX11_laysRows_63 : decode cX11_laysRows 63 = .ok (.invokevirtual 156, 3) := by decide +kernel
theorem dX11_laysRows_66 : decode cX11_laysRows 66 = .ok (.iconst 0, 1) := by decide +kernel
theorem dX11_laysRows_67 : decode cX11_laysRows 67 = .ok (.istore 4, 2) := by decide +kernel
theorem dX11_laysRows_69 : decode cX11_laysRows 69 = .ok (.iload 4, 2) := by decide +kernel
theorem dX11_laysRows_71 : decode cX11_laysRows 71 = .ok (.aload_n 0, 1) := by decide +kernel
theorem dX11_laysRows_72 : decode cX11_laysRows 72 = .ok (.iload_n 1, 1) := by decide +kernel
theorem dX11_laysRows_73 : decode cX11_laysRows 73 = .ok (.iconst 0, 1) := by decide +kernel
theorem dX11_laysRows_74 : decode cX11_laysRows 74 = .ok (.invokevirtual 130, 3) := by decide +kernel
theorem dX11_laysRows_77 : decode cX11_laysRows 77 = .ok (.if_icmp .ge 176, 3) := by decide +kernel
theorem dX11_laysRows_80 : decode cX11_laysRows 80 = .ok (.aload_n 0, 1) := by decide +kernel
theorem dX11_laysRows_81 : decode cX11_laysRows 81 = .ok (.iload_n 1, 1) := by decide +kernel
theorem dX11_laysRows_82 : decode cX11_laysRows 82 = .ok (.iload 4, 2) := by decide +kernel
theorem dX11_laysRows_84 : decode cX11_laysRows 84 = .ok (.invokevirtual 160, 3) := by decide +kernel
theorem dX11_laysRows_87 : decode cX11_laysRows 87 = .ok (.istore 5, 2) := by decide +kernel
theorem dX11_laysRows_89 : decode cX11_laysRows 89 = .ok (.aload_n 0, 1) := by decide +kernel
theorem dX11_laysRows_90 : decode cX11_laysRows 90 = .ok (.getfield 150, 3) := by decide +kernel
theorem dX11_laysRows_93 : decode cX11_laysRows 93 = .ok (.iconst 1, 1) := by decide +kernel
theorem dX11_laysRows_94 : decode cX11_laysRows 94 = .ok (.isub, 1) := by decide +kernel
theorem dX11_laysRows_95 : decode cX11_laysRows 95 = .ok (.istore 6, 2) := by decide +kernel
theorem dX11_laysRows_97 : decode cX11_laysRows 97 = .ok (.aload_n 0, 1) := by decide +kernel
theorem dX11_laysRows_98 : decode cX11_laysRows 98 = .ok (.getfield 31, 3) := by decide +kernel
theorem dX11_laysRows_101 : decode cX11_laysRows 101 = .ok (.iload 6, 2) := by decide +kernel
theorem dX11_laysRows_103 : decode cX11_laysRows 103 = .ok (.iaload, 1) := by decide +kernel
theorem dX11_laysRows_104 : decode cX11_laysRows 104 = .ok (.ifCond .le 7, 3) := by decide +kernel
theorem dX11_laysRows_107 : decode cX11_laysRows 107 = .ok (.iconst 1, 1) := by decide +kernel
theorem dX11_laysRows_108 : decode cX11_laysRows 108 = .ok (.goto 4, 3) := by decide +kernel
theorem dX11_laysRows_111 : decode cX11_laysRows 111 = .ok (.iconst 0, 1) := by decide +kernel
theorem dX11_laysRows_112 : decode cX11_laysRows 112 = .ok (.istore 7, 2) := by decide +kernel
theorem dX11_laysRows_114 : decode cX11_laysRows 114 = .ok (.aload_n 0, 1) := by decide +kernel
theorem dX11_laysRows_115 : decode cX11_laysRows 115 = .ok (.getfield 7, 3) := by decide +kernel
theorem dX11_laysRows_118 : decode cX11_laysRows 118 = .ok (.sipush 2041, 3) := by decide +kernel
theorem dX11_laysRows_121 : decode cX11_laysRows 121 = .ok (.iaload, 1) := by decide +kernel
theorem dX11_laysRows_122 : decode cX11_laysRows 122 = .ok (.aload_n 0, 1) := by decide +kernel
theorem dX11_laysRows_123 : decode cX11_laysRows 123 = .ok (.getfield 28, 3) := by decide +kernel
theorem dX11_laysRows_126 : decode cX11_laysRows 126 = .ok (.iload 6, 2) := by decide +kernel
theorem dX11_laysRows_128 : decode cX11_laysRows 128 = .ok (.iaload, 1) := by decide +kernel
theorem dX11_laysRows_129 : decode cX11_laysRows 129 = .ok (.isub, 1) := by decide +kernel
theorem dX11_laysRows_130 : decode cX11_laysRows 130 = .ok (.aload_n 0, 1) := by decide +kernel
theorem dX11_laysRows_131 : decode cX11_laysRows 131 = .ok (.getfield 31, 3) := by decide +kernel
theorem dX11_laysRows_134 : decode cX11_laysRows 134 = .ok (.iload 6, 2) := by decide +kernel
theorem dX11_laysRows_136 : decode cX11_laysRows 136 = .ok (.iaload, 1) := by decide +kernel
theorem dX11_laysRows_137 : decode cX11_laysRows 137 = .ok (.isub, 1) := by decide +kernel
theorem dX11_laysRows_138 : decode cX11_laysRows 138 = .ok (.iload 7, 2) := by decide +kernel
theorem dX11_laysRows_140 : decode cX11_laysRows 140 = .ok (.isub, 1) := by decide +kernel
theorem dX11_laysRows_141 : decode cX11_laysRows 141 = .ok (.istore 8, 2) := by decide +kernel
theorem dX11_laysRows_143 : decode cX11_laysRows 143 = .ok (.iload 5, 2) := by decide +kernel
theorem dX11_laysRows_145 : decode cX11_laysRows 145 = .ok (.iload 8, 2) := by decide +kernel
theorem dX11_laysRows_147 : decode cX11_laysRows 147 = .ok (.if_icmp .gt 30, 3) := by decide +kernel
theorem dX11_laysRows_150 : decode cX11_laysRows 150 = .ok (.aload_n 0, 1) := by decide +kernel
theorem dX11_laysRows_151 : decode cX11_laysRows 151 = .ok (.getfield 31, 3) := by decide +kernel
theorem dX11_laysRows_154 : decode cX11_laysRows 154 = .ok (.iload 6, 2) := by decide +kernel
theorem dX11_laysRows_156 : decode cX11_laysRows 156 = .ok (.dup2, 1) := by decide +kernel
theorem dX11_laysRows_157 : decode cX11_laysRows 157 = .ok (.iaload, 1) := by decide +kernel
theorem dX11_laysRows_158 : decode cX11_laysRows 158 = .ok (.iload 7, 2) := by decide +kernel
theorem dX11_laysRows_160 : decode cX11_laysRows 160 = .ok (.iload 5, 2) := by decide +kernel
theorem dX11_laysRows_162 : decode cX11_laysRows 162 = .ok (.iadd, 1) := by decide +kernel
theorem dX11_laysRows_163 : decode cX11_laysRows 163 = .ok (.iadd, 1) := by decide +kernel
theorem dX11_laysRows_164 : decode cX11_laysRows 164 = .ok (.iastore, 1) := by decide +kernel
theorem dX11_laysRows_165 : decode cX11_laysRows 165 = .ok (.iload 4, 2) := by decide +kernel
theorem dX11_laysRows_167 : decode cX11_laysRows 167 = .ok (.iload 5, 2) := by decide +kernel
theorem dX11_laysRows_169 : decode cX11_laysRows 169 = .ok (.iconst 1, 1) := by decide +kernel
theorem dX11_laysRows_170 : decode cX11_laysRows 170 = .ok (.iadd, 1) := by decide +kernel
theorem dX11_laysRows_171 : decode cX11_laysRows 171 = .ok (.iadd, 1) := by decide +kernel
theorem dX11_laysRows_172 : decode cX11_laysRows 172 = .ok (.istore 4, 2) := by decide +kernel
theorem dX11_laysRows_174 : decode cX11_laysRows 174 = .ok (.goto 76, 3) := by decide +kernel
theorem dX11_laysRows_177 : decode cX11_laysRows 177 = .ok (.iload 7, 2) := by decide +kernel
theorem dX11_laysRows_179 : decode cX11_laysRows 179 = .ok (.iconst 1, 1) := by decide +kernel
theorem dX11_laysRows_180 : decode cX11_laysRows 180 = .ok (.if_icmp .ne 30, 3) := by decide +kernel
theorem dX11_laysRows_183 : decode cX11_laysRows 183 = .ok (.aload_n 0, 1) := by decide +kernel
theorem dX11_laysRows_184 : decode cX11_laysRows 184 = .ok (.iload_n 1, 1) := by decide +kernel
theorem dX11_laysRows_185 : decode cX11_laysRows 185 = .ok (.aload_n 0, 1) := by decide +kernel
theorem dX11_laysRows_186 : decode cX11_laysRows 186 = .ok (.getfield 150, 3) := by decide +kernel
theorem dX11_laysRows_189 : decode cX11_laysRows 189 = .ok (.iload_n 3, 1) := by decide +kernel
theorem dX11_laysRows_190 : decode cX11_laysRows 190 = .ok (.isub, 1) := by decide +kernel
theorem dX11_laysRows_191 : decode cX11_laysRows 191 = .ok (.iload_n 2, 1) := by decide +kernel
theorem dX11_laysRows_192 : decode cX11_laysRows 192 = .ok (.aload_n 0, 1) := by decide +kernel
theorem dX11_laysRows_193 : decode cX11_laysRows 193 = .ok (.getfield 7, 3) := by decide +kernel
theorem dX11_laysRows_196 : decode cX11_laysRows 196 = .ok (.sipush 2044, 3) := by decide +kernel
theorem dX11_laysRows_199 : decode cX11_laysRows 199 = .ok (.iaload, 1) := by decide +kernel
theorem dX11_laysRows_200 : decode cX11_laysRows 200 = .ok (.iadd, 1) := by decide +kernel
theorem dX11_laysRows_201 : decode cX11_laysRows 201 = .ok (.iload 4, 2) := by decide +kernel
theorem dX11_laysRows_203 : decode cX11_laysRows 203 = .ok (.iconst 0, 1) := by decide +kernel
theorem dX11_laysRows_204 : decode cX11_laysRows 204 = .ok (.invokevirtual 156, 3) := by decide +kernel
theorem dX11_laysRows_207 : decode cX11_laysRows 207 = .ok (.goto 43, 3) := by decide +kernel
theorem dX11_laysRows_210 : decode cX11_laysRows 210 = .ok (.aload_n 0, 1) := by decide +kernel
theorem dX11_laysRows_211 : decode cX11_laysRows 211 = .ok (.getfield 31, 3) := by decide +kernel
theorem dX11_laysRows_214 : decode cX11_laysRows 214 = .ok (.iload 6, 2) := by decide +kernel
theorem dX11_laysRows_216 : decode cX11_laysRows 216 = .ok (.iload 8, 2) := by decide +kernel
theorem dX11_laysRows_218 : decode cX11_laysRows 218 = .ok (.iastore, 1) := by decide +kernel
theorem dX11_laysRows_219 : decode cX11_laysRows 219 = .ok (.iload 4, 2) := by decide +kernel
theorem dX11_laysRows_221 : decode cX11_laysRows 221 = .ok (.iload 8, 2) := by decide +kernel
theorem dX11_laysRows_223 : decode cX11_laysRows 223 = .ok (.iadd, 1) := by decide +kernel
theorem dX11_laysRows_224 : decode cX11_laysRows 224 = .ok (.istore 4, 2) := by decide +kernel
theorem dX11_laysRows_226 : decode cX11_laysRows 226 = .ok (.aload_n 0, 1) := by decide +kernel
theorem dX11_laysRows_227 : decode cX11_laysRows 227 = .ok (.iload_n 1, 1) := by decide +kernel
theorem dX11_laysRows_228 : decode cX11_laysRows 228 = .ok (.aload_n 0, 1) := by decide +kernel
theorem dX11_laysRows_229 : decode cX11_laysRows 229 = .ok (.getfield 150, 3) := by decide +kernel
theorem dX11_laysRows_232 : decode cX11_laysRows 232 = .ok (.iload_n 3, 1) := by decide +kernel
theorem dX11_laysRows_233 : decode cX11_laysRows 233 = .ok (.isub, 1) := by decide +kernel
theorem dX11_laysRows_234 : decode cX11_laysRows 234 = .ok (.iload_n 2, 1) := by decide +kernel
theorem dX11_laysRows_235 : decode cX11_laysRows 235 = .ok (.aload_n 0, 1) := by decide +kernel
theorem dX11_laysRows_236 : decode cX11_laysRows 236 = .ok (.getfield 7, 3) := by decide +kernel
theorem dX11_laysRows_239 : decode cX11_laysRows 239 = .ok (.sipush 2044, 3) := by decide +kernel
theorem dX11_laysRows_242 : decode cX11_laysRows 242 = .ok (.iaload, 1) := by decide +kernel
theorem dX11_laysRows_243 : decode cX11_laysRows 243 = .ok (.iadd, 1) := by decide +kernel
theorem dX11_laysRows_244 : decode cX11_laysRows 244 = .ok (.iload 4, 2) := by decide +kernel
theorem dX11_laysRows_246 : decode cX11_laysRows 246 = .ok (.iconst 1, 1) := by decide +kernel
theorem dX11_laysRows_247 : decode cX11_laysRows 247 = .ok (.invokevirtual 156, 3) := by decide +kernel
theorem dX11_laysRows_250 : decode cX11_laysRows 250 = .ok (.goto (-181), 3) := by decide +kernel
theorem dX11_laysRows_253 : decode cX11_laysRows 253 = .ok (.return_, 1) := by decide +kernel
theorem dX11_turns_0 : decode cX11_turns 0 = .ok (.aload_n 0, 1) := by decide +kernel
theorem dX11_turns_1 : decode cX11_turns 1 = .ok (.dup, 1) := by decide +kernel
theorem dX11_turns_2 : decode cX11_turns 2 = .ok (.getfield 163, 3) := by decide +kernel
theorem dX11_turns_5 : decode cX11_turns 5 = .ok (.iconst 1, 1) := by decide +kernel
theorem dX11_turns_6 : decode cX11_turns 6 = .ok (.iadd, 1) := by decide +kernel
theorem dX11_turns_7 : decode cX11_turns 7 = .ok (.putfield 163, 3) := by decide +kernel
theorem dX11_turns_10 : decode cX11_turns 10 = .ok (.aload_n 0, 1) := by decide +kernel
theorem dX11_turns_11 : decode cX11_turns 11 = .ok (.iconst 0, 1) := by decide +kernel
theorem dX11_turns_12 : decode cX11_turns 12 = .ok (.putfield 166, 3) := by decide +kernel
theorem dX11_turns_15 : decode cX11_turns 15 = .ok (.aload_n 0, 1) := by decide +kernel
theorem dX11_turns_16 : decode cX11_turns 16 = .ok (.iconst 1, 1) := by decide +kernel
theorem dX11_turns_17 : decode cX11_turns 17 = .ok (.putfield 169, 3) := by decide +kernel
theorem dX11_turns_20 : decode cX11_turns 20 = .ok (.return_, 1) := by decide +kernel
theorem dX11_paginates_0 : decode cX11_paginates 0 = .ok (.aload_n 0, 1) := by decide +kernel
theorem dX11_paginates_1 : decode cX11_paginates 1 = .ok (.getfield 52, 3) := by decide +kernel
theorem dX11_paginates_4 : decode cX11_paginates 4 = .ok (.iload_n 1, 1) := by decide +kernel
theorem dX11_paginates_5 : decode cX11_paginates 5 = .ok (.iaload, 1) := by decide +kernel
theorem dX11_paginates_6 : decode cX11_paginates 6 = .ok (.istore_n 2, 1) := by decide +kernel
theorem dX11_paginates_7 : decode cX11_paginates 7 = .ok (.aload_n 0, 1) := by decide +kernel
theorem dX11_paginates_8 : decode cX11_paginates 8 = .ok (.getfield 7, 3) := by decide +kernel
theorem dX11_paginates_11 : decode cX11_paginates 11 = .ok (.sipush 2042, 3) := by decide +kernel
theorem dX11_paginates_14 : decode cX11_paginates 14 = .ok (.iaload, 1) := by decide +kernel
theorem dX11_paginates_15 : decode cX11_paginates 15 = .ok (.istore_n 3, 1) := by decide +kernel
theorem dX11_paginates_16 : decode cX11_paginates 16 = .ok (.aload_n 0, 1) := by decide +kernel
theorem dX11_paginates_17 : decode cX11_paginates 17 = .ok (.iload_n 1, 1) := by decide +kernel
theorem dX11_paginates_18 : decode cX11_paginates 18 = .ok (.invokevirtual 140, 3) := by decide +kernel
theorem dX11_paginates_21 : decode cX11_paginates 21 = .ok (.ifCond .eq 104, 3) := by decide +kernel
theorem dX11_paginates_24 : decode cX11_paginates 24 = .ok (.aload_n 0, 1) := by decide +kernel
theorem dX11_paginates_25 : decode cX11_paginates 25 = .ok (.getfield 55, 3) := by decide +kernel
theorem dX11_paginates_28 : decode cX11_paginates 28 = .ok (.aload_n 0, 1) := by decide +kernel
theorem dX11_paginates_29 : decode cX11_paginates 29 = .ok (.getfield 46, 3) := by decide +kernel
theorem dX11_paginates_32 : decode cX11_paginates 32 = .ok (.iload_n 1, 1) := by decide +kernel
theorem dX11_paginates_33 : decode cX11_paginates 33 = .ok (.iaload, 1) := by decide +kernel
theorem dX11_paginates_34 : decode cX11_paginates 34 = .ok (.iaload, 1) := by decide +kernel
theorem dX11_paginates_35 : decode cX11_paginates 35 = .ok (.istore 4, 2) := by decide +kernel
theorem dX11_paginates_37 : decode cX11_paginates 37 = .ok (.iload_n 3, 1) := by decide +kernel
theorem dX11_paginates_38 : decode cX11_paginates 38 = .ok (.aload_n 0, 1) := by decide +kernel
theorem dX11_paginates_39 : decode cX11_paginates 39 = .ok (.getfield 166, 3) := by decide +kernel
theorem dX11_paginates_42 : decode cX11_paginates 42 = .ok (.isub, 1) := by decide +kernel
theorem dX11_paginates_43 : decode cX11_paginates 43 = .ok (.iconst 1, 1) := by decide +kernel
theorem dX11_paginates_44 : decode cX11_paginates 44 = .ok (.isub, 1) := by decide +kernel
theorem dX11_paginates_45 : decode cX11_paginates 45 = .ok (.istore 5, 2) := by decide +kernel
theorem dX11_paginates_47 : decode cX11_paginates 47 = .ok (.iload 4, 2) := by decide +kernel
theorem dX11_paginates_49 : decode cX11_paginates 49 = .ok (.aload_n 0, 1) := by decide +kernel
theorem dX11_paginates_50 : decode cX11_paginates 50 = .ok (.getfield 7, 3) := by decide +kernel
theorem dX11_paginates_53 : decode cX11_paginates 53 = .ok (.sipush 2045, 3) := by decide +kernel
theorem dX11_paginates_56 : decode cX11_paginates 56 = .ok (.iaload, 1) := by decide +kernel
theorem dX11_paginates_57 : decode cX11_paginates 57 = .ok (.if_icmp .gt 20, 3) := by decide +kernel
theorem dX11_paginates_60 : decode cX11_paginates 60 = .ok (.iload 4, 2) := by decide +kernel
theorem dX11_paginates_62 : decode cX11_paginates 62 = .ok (.iload_n 3, 1) := by decide +kernel
theorem dX11_paginates_63 : decode cX11_paginates 63 = .ok (.if_icmp .gt 14, 3) := by decide +kernel
theorem dX11_paginates_66 : decode cX11_paginates 66 = .ok (.iload 5, 2) := by decide +kernel
theorem dX11_paginates_68 : decode cX11_paginates 68 = .ok (.iload 4, 2) := by decide +kernel
theorem dX11_paginates_70 : decode cX11_paginates 70 = .ok (.if_icmp .ge 7, 3) := by decide +kernel
theorem dX11_paginates_73 : decode cX11_paginates 73 = .ok (.iconst 1, 1) := by decide +kernel
theorem dX11_paginates_74 : decode cX11_paginates 74 = .ok (.goto 4, 3) := by decide +kernel
theorem dX11_paginates_77 : decode cX11_paginates 77 = .ok (.iconst 0, 1) := by decide +kernel
theorem dX11_paginates_78 : decode cX11_paginates 78 = .ok (.istore 6, 2) := by decide +kernel
theorem dX11_paginates_80 : decode cX11_paginates 80 = .ok (.aload_n 0, 1) := by decide +kernel
theorem dX11_paginates_81 : decode cX11_paginates 81 = .ok (.getfield 169, 3) := by decide +kernel
theorem dX11_paginates_84 : decode cX11_paginates 84 = .ok (.ifCond .ne 21, 3) := by decide +kernel
theorem dX11_paginates_87 : decode cX11_paginates 87 = .ok (.iload 5, 2) := by decide +kernel
theorem dX11_paginates_89 : decode cX11_paginates 89 = .ok (.iload_n 2, 1) := by decide +kernel
theorem dX11_paginates_90 : decode cX11_paginates 90 = .ok (.if_icmp .lt 8, 3) := by decide +kernel
theorem dX11_paginates_93 : decode cX11_paginates 93 = .ok (.iload 6, 2) := by decide +kernel
theorem dX11_paginates_95 : decode cX11_paginates 95 = .ok (.ifCond .eq 10, 3) := by decide +kernel
theorem dX11_paginates_98 : decode cX11_paginates 98 = .ok (.aload_n 0, 1) := by decide +kernel
theorem dX11_paginates_99 : decode cX11_paginates 99 = .ok (.invokevirtual 173, 3) := by decide +kernel
theorem dX11_paginates_102 : decode cX11_paginates 102 = .ok (.goto 20, 3) := by decide +kernel
theorem dX11_paginates_105 : decode cX11_paginates 105 = .ok (.aload_n 0, 1) := by decide +kernel
theorem dX11_paginates_106 : decode cX11_paginates 106 = .ok (.getfield 169, 3) := by decide +kernel
theorem dX11_paginates_109 : decode cX11_paginates 109 = .ok (.ifCond .ne 13, 3) := by decide +kernel
theorem dX11_paginates_112 : decode cX11_paginates 112 = .ok (.aload_n 0, 1) := by decide +kernel
theorem dX11_paginates_113 : decode cX11_paginates 113 = .ok (.dup, 1) := by decide +kernel
theorem dX11_paginates_114 : decode cX11_paginates 114 = .ok (.getfield 166, 3) := by decide +kernel
theorem dX11_paginates_117 : decode cX11_paginates 117 = .ok (.iconst 1, 1) := by decide +kernel
theorem dX11_paginates_118 : decode cX11_paginates 118 = .ok (.iadd, 1) := by decide +kernel
theorem dX11_paginates_119 : decode cX11_paginates 119 = .ok (.putfield 166, 3) := by decide +kernel
theorem dX11_paginates_122 : decode cX11_paginates 122 = .ok (.goto 24, 3) := by decide +kernel
theorem dX11_paginates_125 : decode cX11_paginates 125 = .ok (.aload_n 0, 1) := by decide +kernel
theorem dX11_paginates_126 : decode cX11_paginates 126 = .ok (.getfield 169, 3) := by decide +kernel
theorem dX11_paginates_129 : decode cX11_paginates 129 = .ok (.ifCond .ne 17, 3) := by decide +kernel
theorem dX11_paginates_132 : decode cX11_paginates 132 = .ok (.iload_n 3, 1) := by decide +kernel
theorem dX11_paginates_133 : decode cX11_paginates 133 = .ok (.aload_n 0, 1) := by decide +kernel
theorem dX11_paginates_134 : decode cX11_paginates 134 = .ok (.getfield 166, 3) := by decide +kernel
theorem dX11_paginates_137 : decode cX11_paginates 137 = .ok (.isub, 1) := by decide +kernel
theorem dX11_paginates_138 : decode cX11_paginates 138 = .ok (.iload_n 2, 1) := by decide +kernel
theorem dX11_paginates_139 : decode cX11_paginates 139 = .ok (.if_icmp .ge 7, 3) := by decide +kernel
theorem dX11_paginates_142 : decode cX11_paginates 142 = .ok (.aload_n 0, 1) := by decide +kernel
theorem dX11_paginates_143 : decode cX11_paginates 143 = .ok (.invokevirtual 173, 3) := by decide +kernel
theorem dX11_paginates_146 : decode cX11_paginates 146 = .ok (.aload_n 0, 1) := by decide +kernel
theorem dX11_paginates_147 : decode cX11_paginates 147 = .ok (.getfield 49, 3) := by decide +kernel
theorem dX11_paginates_150 : decode cX11_paginates 150 = .ok (.iload_n 1, 1) := by decide +kernel
theorem dX11_paginates_151 : decode cX11_paginates 151 = .ok (.iaload, 1) := by decide +kernel
theorem dX11_paginates_152 : decode cX11_paginates 152 = .ok (.istore 4, 2) := by decide +kernel
theorem dX11_paginates_154 : decode cX11_paginates 154 = .ok (.iload 4, 2) := by decide +kernel
theorem dX11_paginates_156 : decode cX11_paginates 156 = .ok (.aload_n 0, 1) := by decide +kernel
theorem dX11_paginates_157 : decode cX11_paginates 157 = .ok (.getfield 49, 3) := by decide +kernel
theorem dX11_paginates_160 : decode cX11_paginates 160 = .ok (.iload_n 1, 1) := by decide +kernel
theorem dX11_paginates_161 : decode cX11_paginates 161 = .ok (.iaload, 1) := by decide +kernel
theorem dX11_paginates_162 : decode cX11_paginates 162 = .ok (.iload_n 2, 1) := by decide +kernel
theorem dX11_paginates_163 : decode cX11_paginates 163 = .ok (.iadd, 1) := by decide +kernel
theorem dX11_paginates_164 : decode cX11_paginates 164 = .ok (.if_icmp .ge 58, 3) := by decide +kernel
theorem dX11_paginates_167 : decode cX11_paginates 167 = .ok (.aload_n 0, 1) := by decide +kernel
theorem dX11_paginates_168 : decode cX11_paginates 168 = .ok (.getfield 166, 3) := by decide +kernel
theorem dX11_paginates_171 : decode cX11_paginates 171 = .ok (.iload_n 3, 1) := by decide +kernel
theorem dX11_paginates_172 : decode cX11_paginates 172 = .ok (.if_icmp .ne 7, 3) := by decide +kernel
theorem dX11_paginates_175 : decode cX11_paginates 175 = .ok (.aload_n 0, 1) := by decide +kernel
theorem dX11_paginates_176 : decode cX11_paginates 176 = .ok (.invokevirtual 173, 3) := by decide +kernel
theorem dX11_paginates_179 : decode cX11_paginates 179 = .ok (.aload_n 0, 1) := by decide +kernel
theorem dX11_paginates_180 : decode cX11_paginates 180 = .ok (.getfield 40, 3) := by decide +kernel
theorem dX11_paginates_183 : decode cX11_paginates 183 = .ok (.iload 4, 2) := by decide +kernel
theorem dX11_paginates_185 : decode cX11_paginates 185 = .ok (.aload_n 0, 1) := by decide +kernel
theorem dX11_paginates_186 : decode cX11_paginates 186 = .ok (.getfield 163, 3) := by decide +kernel
theorem dX11_paginates_189 : decode cX11_paginates 189 = .ok (.iastore, 1) := by decide +kernel
theorem dX11_paginates_190 : decode cX11_paginates 190 = .ok (.aload_n 0, 1) := by decide +kernel
theorem dX11_paginates_191 : decode cX11_paginates 191 = .ok (.getfield 43, 3) := by decide +kernel
theorem dX11_paginates_194 : decode cX11_paginates 194 = .ok (.iload 4, 2) := by decide +kernel
theorem dX11_paginates_196 : decode cX11_paginates 196 = .ok (.aload_n 0, 1) := by decide +kernel
theorem dX11_paginates_197 : decode cX11_paginates 197 = .ok (.getfield 166, 3) := by decide +kernel
theorem dX11_paginates_200 : decode cX11_paginates 200 = .ok (.iastore, 1) := by decide +kernel
theorem dX11_paginates_201 : decode cX11_paginates 201 = .ok (.aload_n 0, 1) := by decide +kernel
theorem dX11_paginates_202 : decode cX11_paginates 202 = .ok (.dup, 1) := by decide +kernel
theorem dX11_paginates_203 : decode cX11_paginates 203 = .ok (.getfield 166, 3) := by decide +kernel
theorem dX11_paginates_206 : decode cX11_paginates 206 = .ok (.iconst 1, 1) := by decide +kernel
theorem dX11_paginates_207 : decode cX11_paginates 207 = .ok (.iadd, 1) := by decide +kernel
theorem dX11_paginates_208 : decode cX11_paginates 208 = .ok (.putfield 166, 3) := by decide +kernel
theorem dX11_paginates_211 : decode cX11_paginates 211 = .ok (.aload_n 0, 1) := by decide +kernel
theorem dX11_paginates_212 : decode cX11_paginates 212 = .ok (.iconst 0, 1) := by decide +kernel
theorem dX11_paginates_213 : decode cX11_paginates 213 = .ok (.putfield 169, 3) := by decide +kernel
theorem dX11_paginates_216 : decode cX11_paginates 216 = .ok (.iinc 4 1, 3) := by decide +kernel
theorem dX11_paginates_219 : decode cX11_paginates 219 = .ok (.goto (-65), 3) := by decide +kernel
theorem dX11_paginates_222 : decode cX11_paginates 222 = .ok (.return_, 1) := by decide +kernel
theorem dX11_draws_0 : decode cX11_draws 0 = .ok (.aload_n 0, 1) := by decide +kernel
theorem dX11_draws_1 : decode cX11_draws 1 = .ok (.iconst 0, 1) := by decide +kernel
theorem dX11_draws_2 : decode cX11_draws 2 = .ok (.putfield 150, 3) := by decide +kernel
theorem dX11_draws_5 : decode cX11_draws 5 = .ok (.iconst (-1), 1) := by decide +kernel
theorem dX11_draws_6 : decode cX11_draws 6 = .ok (.istore_n 1, 1) := by decide +kernel
theorem dX11_draws_7 : decode cX11_draws 7 = .ok (.iconst 0, 1) := by decide +kernel
theorem dX11_draws_8 : decode cX11_draws 8 = .ok (.istore_n 2, 1) := by decide +kernel
theorem dX11_draws_9 : decode cX11_draws 9 = .ok (.iload_n 2, 1) := by decide +kernel
theorem dX11_draws_10 : decode cX11_draws 10 = .ok (.aload_n 0, 1) := by decide +kernel
theorem dX11_draws_11 : decode cX11_draws 11 = .ok (.getfield 7, 3) := by decide +kernel
theorem dX11_draws_14 : decode cX11_draws 14 = .ok (.sipush 2040, 3) := by decide +kernel
theorem dX11_draws_17 : decode cX11_draws 17 = .ok (.iaload, 1) := by decide +kernel
theorem dX11_draws_18 : decode cX11_draws 18 = .ok (.if_icmp .ge 81, 3) := by decide +kernel
theorem dX11_draws_21 : decode cX11_draws 21 = .ok (.aload_n 0, 1) := by decide +kernel
theorem dX11_draws_22 : decode cX11_draws 22 = .ok (.iload_n 2, 1) := by decide +kernel
theorem dX11_draws_23 : decode cX11_draws 23 = .ok (.invokevirtual 140, 3) := by decide +kernel
theorem dX11_draws_26 : decode cX11_draws 26 = .ok (.ifCond .eq 13, 3) := by decide +kernel
theorem dX11_draws_29 : decode cX11_draws 29 = .ok (.iinc 1 1, 3) := by decide +kernel
theorem dX11_draws_32 : decode cX11_draws 32 = .ok (.aload_n 0, 1) := by decide +kernel
theorem dX11_draws_33 : decode cX11_draws 33 = .ok (.getfield 55, 3) := by decide +kernel
theorem dX11_draws_36 : decode cX11_draws 36 = .ok (.iload_n 1, 1) := by decide +kernel
theorem dX11_draws_37 : decode cX11_draws 37 = .ok (.iconst 0, 1) := by decide +kernel
theorem dX11_draws_38 : decode cX11_draws 38 = .ok (.iastore, 1) := by decide +kernel
theorem dX11_draws_39 : decode cX11_draws 39 = .ok (.aload_n 0, 1) := by decide +kernel
theorem dX11_draws_40 : decode cX11_draws 40 = .ok (.getfield 46, 3) := by decide +kernel
theorem dX11_draws_43 : decode cX11_draws 43 = .ok (.iload_n 2, 1) := by decide +kernel
theorem dX11_draws_44 : decode cX11_draws 44 = .ok (.iload_n 1, 1) := by decide +kernel
theorem dX11_draws_45 : decode cX11_draws 45 = .ok (.iastore, 1) := by decide +kernel
theorem dX11_draws_46 : decode cX11_draws 46 = .ok (.aload_n 0, 1) := by decide +kernel
theorem dX11_draws_47 : decode cX11_draws 47 = .ok (.getfield 49, 3) := by decide +kernel
theorem dX11_draws_50 : decode cX11_draws 50 = .ok (.iload_n 2, 1) := by decide +kernel
theorem dX11_draws_51 : decode cX11_draws 51 = .ok (.aload_n 0, 1) := by decide +kernel
theorem dX11_draws_52 : decode cX11_draws 52 = .ok (.getfield 150, 3) := by decide +kernel
theorem dX11_draws_55 : decode cX11_draws 55 = .ok (.iastore, 1) := by decide +kernel
theorem dX11_draws_56 : decode cX11_draws 56 = .ok (.aload_n 0, 1) := by decide +kernel
theorem dX11_draws_57 : decode cX11_draws 57 = .ok (.iload_n 2, 1) := by decide +kernel
theorem dX11_draws_58 : decode cX11_draws 58 = .ok (.invokevirtual 176, 3) := by decide +kernel
theorem dX11_draws_61 : decode cX11_draws 61 = .ok (.aload_n 0, 1) := by decide +kernel
theorem dX11_draws_62 : decode cX11_draws 62 = .ok (.getfield 52, 3) := by decide +kernel
theorem dX11_draws_65 : decode cX11_draws 65 = .ok (.iload_n 2, 1) := by decide +kernel
theorem dX11_draws_66 : decode cX11_draws 66 = .ok (.aload_n 0, 1) := by decide +kernel
theorem dX11_draws_67 : decode cX11_draws 67 = .ok (.getfield 150, 3) := by decide +kernel
theorem dX11_draws_70 : decode cX11_draws 70 = .ok (.aload_n 0, 1) := by decide +kernel
theorem dX11_draws_71 : decode cX11_draws 71 = .ok (.getfield 49, 3) := by decide +kernel
theorem dX11_draws_74 : decode cX11_draws 74 = .ok (.iload_n 2, 1) := by decide +kernel
theorem dX11_draws_75 : decode cX11_draws 75 = .ok (.iaload, 1) := by decide +kernel
theorem dX11_draws_76 : decode cX11_draws 76 = .ok (.isub, 1) := by decide +kernel
theorem dX11_draws_77 : decode cX11_draws 77 = .ok (.iastore, 1) := by decide +kernel
theorem dX11_draws_78 : decode cX11_draws 78 = .ok (.aload_n 0, 1) := by decide +kernel
theorem dX11_draws_79 : decode cX11_draws 79 = .ok (.getfield 55, 3) := by decide +kernel
theorem dX11_draws_82 : decode cX11_draws 82 = .ok (.iload_n 1, 1) := by decide +kernel
theorem dX11_draws_83 : decode cX11_draws 83 = .ok (.dup2, 1) := by decide +kernel
theorem dX11_draws_84 : decode cX11_draws 84 = .ok (.iaload, 1) := by decide +kernel
theorem dX11_draws_85 : decode cX11_draws 85 = .ok (.aload_n 0, 1) := by decide +kernel
theorem dX11_draws_86 : decode cX11_draws 86 = .ok (.getfield 52, 3) := by decide +kernel
theorem dX11_draws_89 : decode cX11_draws 89 = .ok (.iload_n 2, 1) := by decide +kernel
theorem dX11_draws_90 : decode cX11_draws 90 = .ok (.iaload, 1) := by decide +kernel
theorem dX11_draws_91 : decode cX11_draws 91 = .ok (.iadd, 1) := by decide +kernel
theorem dX11_draws_92 : decode cX11_draws 92 = .ok (.iastore, 1) := by decide +kernel
theorem dX11_draws_93 : decode cX11_draws 93 = .ok (.iinc 2 1, 3) := by decide +kernel
theorem dX11_draws_96 : decode cX11_draws 96 = .ok (.goto (-87), 3) := by decide +kernel
theorem dX11_draws_99 : decode cX11_draws 99 = .ok (.aload_n 0, 1) := by decide +kernel
theorem dX11_draws_100 : decode cX11_draws 100 = .ok (.iconst 0, 1) := by decide +kernel
theorem dX11_draws_101 : decode cX11_draws 101 = .ok (.putfield 163, 3) := by decide +kernel
theorem dX11_draws_104 : decode cX11_draws 104 = .ok (.aload_n 0, 1) := by decide +kernel
theorem dX11_draws_105 : decode cX11_draws 105 = .ok (.iconst 0, 1) := by decide +kernel
theorem dX11_draws_106 : decode cX11_draws 106 = .ok (.putfield 166, 3) := by decide +kernel
theorem dX11_draws_109 : decode cX11_draws 109 = .ok (.aload_n 0, 1) := by decide +kernel
theorem dX11_draws_110 : decode cX11_draws 110 = .ok (.iconst 1, 1) := by decide +kernel
theorem dX11_draws_111 : decode cX11_draws 111 = .ok (.putfield 169, 3) := by decide +kernel
theorem dX11_draws_114 : decode cX11_draws 114 = .ok (.iconst 0, 1) := by decide +kernel
theorem dX11_draws_115 : decode cX11_draws 115 = .ok (.istore_n 2, 1) := by decide +kernel
theorem dX11_draws_116 : decode cX11_draws 116 = .ok (.iload_n 2, 1) := by decide +kernel
theorem dX11_draws_117 : decode cX11_draws 117 = .ok (.aload_n 0, 1) := by decide +kernel
theorem dX11_draws_118 : decode cX11_draws 118 = .ok (.getfield 7, 3) := by decide +kernel
theorem dX11_draws_121 : decode cX11_draws 121 = .ok (.sipush 2040, 3) := by decide +kernel
theorem dX11_draws_124 : decode cX11_draws 124 = .ok (.iaload, 1) := by decide +kernel
theorem dX11_draws_125 : decode cX11_draws 125 = .ok (.if_icmp .ge 14, 3) := by decide +kernel
theorem dX11_draws_128 : decode cX11_draws 128 = .ok (.aload_n 0, 1) := by decide +kernel
theorem dX11_draws_129 : decode cX11_draws 129 = .ok (.iload_n 2, 1) := by decide +kernel
theorem dX11_draws_130 : decode cX11_draws 130 = .ok (.invokevirtual 179, 3) := by decide +kernel
theorem dX11_draws_133 : decode cX11_draws 133 = .ok (.iinc 2 1, 3) := by decide +kernel
theorem dX11_draws_136 : decode cX11_draws 136 = .ok (.goto (-20), 3) := by decide +kernel
theorem dX11_draws_139 : decode cX11_draws 139 = .ok (.return_, 1) := by decide +kernel
theorem dX11_pages_0 : decode cX11_pages 0 = .ok (.aload_n 0, 1) := by decide +kernel
theorem dX11_pages_1 : decode cX11_pages 1 = .ok (.getfield 150, 3) := by decide +kernel
theorem dX11_pages_4 : decode cX11_pages 4 = .ok (.ifCond .ne 7, 3) := by decide +kernel
theorem dX11_pages_7 : decode cX11_pages 7 = .ok (.iconst 0, 1) := by decide +kernel
theorem dX11_pages_8 : decode cX11_pages 8 = .ok (.goto 16, 3) := by decide +kernel
theorem dX11_pages_11 : decode cX11_pages 11 = .ok (.aload_n 0, 1) := by decide +kernel
theorem dX11_pages_12 : decode cX11_pages 12 = .ok (.getfield 40, 3) := by decide +kernel
theorem dX11_pages_15 : decode cX11_pages 15 = .ok (.aload_n 0, 1) := by decide +kernel
theorem dX11_pages_16 : decode cX11_pages 16 = .ok (.getfield 150, 3) := by decide +kernel
theorem dX11_pages_19 : decode cX11_pages 19 = .ok (.iconst 1, 1) := by decide +kernel
theorem dX11_pages_20 : decode cX11_pages 20 = .ok (.isub, 1) := by decide +kernel
theorem dX11_pages_21 : decode cX11_pages 21 = .ok (.iaload, 1) := by decide +kernel
theorem dX11_pages_22 : decode cX11_pages 22 = .ok (.iconst 1, 1) := by decide +kernel
theorem dX11_pages_23 : decode cX11_pages 23 = .ok (.iadd, 1) := by decide +kernel
theorem dX11_pages_24 : decode cX11_pages 24 = .ok (.ireturn, 1) := by decide +kernel
theorem dX11_letters_0 : decode cX11_letters 0 = .ok (.aload_n 0, 1) := by decide +kernel
theorem dX11_letters_1 : decode cX11_letters 1 = .ok (.iload_n 1, 1) := by decide +kernel
theorem dX11_letters_2 : decode cX11_letters 2 = .ok (.iconst 0, 1) := by decide +kernel
theorem dX11_letters_3 : decode cX11_letters 3 = .ok (.invokevirtual 130, 3) := by decide +kernel
theorem dX11_letters_6 : decode cX11_letters 6 = .ok (.aload_n 0, 1) := by decide +kernel
theorem dX11_letters_7 : decode cX11_letters 7 = .ok (.iload_n 1, 1) := by decide +kernel
theorem dX11_letters_8 : decode cX11_letters 8 = .ok (.iconst 1, 1) := by decide +kernel
theorem dX11_letters_9 : decode cX11_letters 9 = .ok (.invokevirtual 130, 3) := by decide +kernel
theorem dX11_letters_12 : decode cX11_letters 12 = .ok (.isub, 1) := by decide +kernel
theorem dX11_letters_13 : decode cX11_letters 13 = .ok (.iconst 1, 1) := by decide +kernel
theorem dX11_letters_14 : decode cX11_letters 14 = .ok (.iadd, 1) := by decide +kernel
theorem dX11_letters_15 : decode cX11_letters 15 = .ok (.ireturn, 1) := by decide +kernel
theorem dX11_linePart_0 : decode cX11_linePart 0 = .ok (.iload_n 2, 1) := by decide +kernel
theorem dX11_linePart_1 : decode cX11_linePart 1 = .ok (.tableswitch 119 0 8 #[51, 57, 64, 71, 78, 92, 99, 105, 112], 51) := by decide +kernel
theorem dX11_linePart_52 : decode cX11_linePart 52 = .ok (.aload_n 0, 1) := by decide +kernel
theorem dX11_linePart_53 : decode cX11_linePart 53 = .ok (.iload_n 1, 1) := by decide +kernel
theorem dX11_linePart_54 : decode cX11_linePart 54 = .ok (.invokevirtual 182, 3) := by decide +kernel
theorem dX11_linePart_57 : decode cX11_linePart 57 = .ok (.ireturn, 1) := by decide +kernel
theorem dX11_linePart_58 : decode cX11_linePart 58 = .ok (.aload_n 0, 1) := by decide +kernel
theorem dX11_linePart_59 : decode cX11_linePart 59 = .ok (.iload_n 1, 1) := by decide +kernel
theorem dX11_linePart_60 : decode cX11_linePart 60 = .ok (.iconst 1, 1) := by decide +kernel
theorem dX11_linePart_61 : decode cX11_linePart 61 = .ok (.invokevirtual 130, 3) := by decide +kernel
theorem dX11_linePart_64 : decode cX11_linePart 64 = .ok (.ireturn, 1) := by decide +kernel
theorem dX11_linePart_65 : decode cX11_linePart 65 = .ok (.aload_n 0, 1) := by decide +kernel
theorem dX11_linePart_66 : decode cX11_linePart 66 = .ok (.iload_n 1, 1) := by decide +kernel
theorem dX11_linePart_67 : decode cX11_linePart 67 = .ok (.iconst 2, 1) := by decide +kernel
theorem dX11_linePart_68 : decode cX11_linePart 68 = .ok (.invokevirtual 130, 3) := by decide +kernel
theorem dX11_linePart_71 : decode cX11_linePart 71 = .ok (.ireturn, 1) := by decide +kernel
theorem dX11_linePart_72 : decode cX11_linePart 72 = .ok (.aload_n 0, 1) := by decide +kernel
theorem dX11_linePart_73 : decode cX11_linePart 73 = .ok (.iload_n 1, 1) := by decide +kernel
theorem dX11_linePart_74 : decode cX11_linePart 74 = .ok (.iconst 3, 1) := by decide +kernel
theorem dX11_linePart_75 : decode cX11_linePart 75 = .ok (.invokevirtual 130, 3) := by decide +kernel
theorem dX11_linePart_78 : decode cX11_linePart 78 = .ok (.ireturn, 1) := by decide +kernel
theorem dX11_linePart_79 : decode cX11_linePart 79 = .ok (.aload_n 0, 1) := by decide +kernel
theorem dX11_linePart_80 : decode cX11_linePart 80 = .ok (.iload_n 1, 1) := by decide +kernel
theorem dX11_linePart_81 : decode cX11_linePart 81 = .ok (.invokevirtual 147, 3) := by decide +kernel
theorem dX11_linePart_84 : decode cX11_linePart 84 = .ok (.ifCond .eq 7, 3) := by decide +kernel
theorem dX11_linePart_87 : decode cX11_linePart 87 = .ok (.iconst 1, 1) := by decide +kernel
theorem dX11_linePart_88 : decode cX11_linePart 88 = .ok (.goto 4, 3) := by decide +kernel
theorem dX11_linePart_91 : decode cX11_linePart 91 = .ok (.iconst 0, 1) := by decide +kernel
theorem dX11_linePart_92 : decode cX11_linePart 92 = .ok (.ireturn, 1) := by decide +kernel
theorem dX11_linePart_93 : decode cX11_linePart 93 = .ok (.aload_n 0, 1) := by decide +kernel
theorem dX11_linePart_94 : decode cX11_linePart 94 = .ok (.iload_n 1, 1) := by decide +kernel
theorem dX11_linePart_95 : decode cX11_linePart 95 = .ok (.iconst 4, 1) := by decide +kernel
theorem dX11_linePart_96 : decode cX11_linePart 96 = .ok (.invokevirtual 130, 3) := by decide +kernel
theorem dX11_linePart_99 : decode cX11_linePart 99 = .ok (.ireturn, 1) := by decide +kernel
theorem dX11_linePart_100 : decode cX11_linePart 100 = .ok (.aload_n 0, 1) := by decide +kernel
theorem dX11_linePart_101 : decode cX11_linePart 101 = .ok (.iload_n 1, 1) := by decide +kernel
theorem dX11_linePart_102 : decode cX11_linePart 102 = .ok (.invokevirtual 185, 3) := by decide +kernel
theorem dX11_linePart_105 : decode cX11_linePart 105 = .ok (.ireturn, 1) := by decide +kernel
theorem dX11_linePart_106 : decode cX11_linePart 106 = .ok (.aload_n 0, 1) := by decide +kernel
theorem dX11_linePart_107 : decode cX11_linePart 107 = .ok (.getfield 49, 3) := by decide +kernel
theorem dX11_linePart_110 : decode cX11_linePart 110 = .ok (.iload_n 1, 1) := by decide +kernel
theorem dX11_linePart_111 : decode cX11_linePart 111 = .ok (.iaload, 1) := by decide +kernel
theorem dX11_linePart_112 : decode cX11_linePart 112 = .ok (.ireturn, 1) := by decide +kernel
theorem dX11_linePart_113 : decode cX11_linePart 113 = .ok (.aload_n 0, 1) := by decide +kernel
theorem dX11_linePart_114 : decode cX11_linePart 114 = .ok (.getfield 52, 3) := by decide +kernel
theorem dX11_linePart_117 : decode cX11_linePart 117 = .ok (.iload_n 1, 1) := by decide +kernel
theorem dX11_linePart_118 : decode cX11_linePart 118 = .ok (.iaload, 1) := by decide +kernel
theorem dX11_linePart_119 : decode cX11_linePart 119 = .ok (.ireturn, 1) := by decide +kernel
theorem dX11_linePart_120 : decode cX11_linePart 120 = .ok (.aload_n 0, 1) := by decide +kernel
theorem dX11_linePart_121 : decode cX11_linePart 121 = .ok (.getfield 46, 3) := by decide +kernel
theorem dX11_linePart_124 : decode cX11_linePart 124 = .ok (.iload_n 1, 1) := by decide +kernel
theorem dX11_linePart_125 : decode cX11_linePart 125 = .ok (.iaload, 1) := by decide +kernel
theorem dX11_linePart_126 : decode cX11_linePart 126 = .ok (.ireturn, 1) := by decide +kernel
theorem dX11_line_0 : decode cX11_line 0 = .ok (.aload_n 0, 1) := by decide +kernel
theorem dX11_line_1 : decode cX11_line 1 = .ok (.iload_n 1, 1) := by decide +kernel
theorem dX11_line_2 : decode cX11_line 2 = .ok (.invokevirtual 127, 3) := by decide +kernel
theorem dX11_line_5 : decode cX11_line 5 = .ok (.ifCond .eq 13, 3) := by decide +kernel
theorem dX11_line_8 : decode cX11_line 8 = .ok (.iload_n 2, 1) := by decide +kernel
theorem dX11_line_9 : decode cX11_line 9 = .ok (.iconst 0, 1) := by decide +kernel
theorem dX11_line_10 : decode cX11_line 10 = .ok (.bipush 9, 2) := by decide +kernel
theorem dX11_line_12 : decode cX11_line 12 = .ok (.invokestatic 62, 3) := by decide +kernel
theorem dX11_line_15 : decode cX11_line 15 = .ok (.ifCond .ne 6, 3) := by decide +kernel
theorem dX11_line_18 : decode cX11_line 18 = .ok (.bipush (-2), 2) := by decide +kernel
theorem dX11_line_20 : decode cX11_line 20 = .ok (.ireturn, 1) := by decide +kernel
theorem dX11_line_21 : decode cX11_line 21 = .ok (.aload_n 0, 1) := by decide +kernel
theorem dX11_line_22 : decode cX11_line 22 = .ok (.invokevirtual 188, 3) := by decide +kernel
theorem dX11_line_25 : decode cX11_line 25 = .ok (.aload_n 0, 1) := by decide +kernel
theorem dX11_line_26 : decode cX11_line 26 = .ok (.iload_n 1, 1) := by decide +kernel
theorem dX11_line_27 : decode cX11_line 27 = .ok (.iload_n 2, 1) := by decide +kernel
theorem dX11_line_28 : decode cX11_line 28 = .ok (.invokevirtual 191, 3) := by decide +kernel
theorem dX11_line_31 : decode cX11_line 31 = .ok (.ireturn, 1) := by decide +kernel
theorem dX11_letter_0 : decode cX11_letter 0 = .ok (.aload_n 0, 1) := by decide +kernel
theorem dX11_letter_1 : decode cX11_letter 1 = .ok (.iload_n 1, 1) := by decide +kernel
theorem dX11_letter_2 : decode cX11_letter 2 = .ok (.invokevirtual 127, 3) := by decide +kernel
theorem dX11_letter_5 : decode cX11_letter 5 = .ok (.ifCond .eq 7, 3) := by decide +kernel
theorem dX11_letter_8 : decode cX11_letter 8 = .ok (.iload_n 2, 1) := by decide +kernel
theorem dX11_letter_9 : decode cX11_letter 9 = .ok (.ifCond .ge 6, 3) := by decide +kernel
theorem dX11_letter_12 : decode cX11_letter 12 = .ok (.bipush (-2), 2) := by decide +kernel
theorem dX11_letter_14 : decode cX11_letter 14 = .ok (.ireturn, 1) := by decide +kernel
theorem dX11_letter_15 : decode cX11_letter 15 = .ok (.iload_n 2, 1) := by decide +kernel
theorem dX11_letter_16 : decode cX11_letter 16 = .ok (.aload_n 0, 1) := by decide +kernel
theorem dX11_letter_17 : decode cX11_letter 17 = .ok (.iload_n 1, 1) := by decide +kernel
theorem dX11_letter_18 : decode cX11_letter 18 = .ok (.iconst 0, 1) := by decide +kernel
theorem dX11_letter_19 : decode cX11_letter 19 = .ok (.invokevirtual 130, 3) := by decide +kernel
theorem dX11_letter_22 : decode cX11_letter 22 = .ok (.if_icmp .ge 14, 3) := by decide +kernel
theorem dX11_letter_25 : decode cX11_letter 25 = .ok (.aload_n 0, 1) := by decide +kernel
theorem dX11_letter_26 : decode cX11_letter 26 = .ok (.iload_n 1, 1) := by decide +kernel
theorem dX11_letter_27 : decode cX11_letter 27 = .ok (.iconst 5, 1) := by decide +kernel
theorem dX11_letter_28 : decode cX11_letter 28 = .ok (.iload_n 2, 1) := by decide +kernel
theorem dX11_letter_29 : decode cX11_letter 29 = .ok (.iadd, 1) := by decide +kernel
theorem dX11_letter_30 : decode cX11_letter 30 = .ok (.invokevirtual 130, 3) := by decide +kernel
theorem dX11_letter_33 : decode cX11_letter 33 = .ok (.goto 4, 3) := by decide +kernel
theorem dX11_letter_36 : decode cX11_letter 36 = .ok (.iconst (-1), 1) := by decide +kernel
theorem dX11_letter_37 : decode cX11_letter 37 = .ok (.ireturn, 1) := by decide +kernel
theorem dX11_set_0 : decode cX11_set 0 = .ok (.iload_n 1, 1) := by decide +kernel
theorem dX11_set_1 : decode cX11_set 1 = .ok (.ifCond .ne 8, 3) := by decide +kernel
theorem dX11_set_4 : decode cX11_set 4 = .ok (.bipush 60, 2) := by decide +kernel
theorem dX11_set_6 : decode cX11_set 6 = .ok (.goto 25, 3) := by decide +kernel
theorem dX11_set_9 : decode cX11_set 9 = .ok (.iload_n 1, 1) := by decide +kernel
theorem dX11_set_10 : decode cX11_set 10 = .ok (.iconst 2, 1) := by decide +kernel
theorem dX11_set_11 : decode cX11_set 11 = .ok (.if_icmp .ne 8, 3) := by decide +kernel
theorem dX11_set_14 : decode cX11_set 14 = .ok (.bipush 6, 2) := by decide +kernel
theorem dX11_set_16 : decode cX11_set 16 = .ok (.goto 15, 3) := by decide +kernel
theorem dX11_set_19 : decode cX11_set 19 = .ok (.iload_n 1, 1) := by decide +kernel
theorem dX11_set_20 : decode cX11_set 20 = .ok (.iconst 3, 1) := by decide +kernel
theorem dX11_set_21 : decode cX11_set 21 = .ok (.if_icmp .ne 8, 3) := by decide +kernel
theorem dX11_set_24 : decode cX11_set 24 = .ok (.bipush 8, 2) := by decide +kernel
theorem dX11_set_26 : decode cX11_set 26 = .ok (.goto 5, 3) := by decide +kernel
theorem dX11_set_29 : decode cX11_set 29 = .ok (.bipush 30, 2) := by decide +kernel
theorem dX11_set_31 : decode cX11_set 31 = .ok (.istore_n 3, 1) := by decide +kernel
theorem dX11_set_32 : decode cX11_set 32 = .ok (.iload_n 1, 1) := by decide +kernel
theorem dX11_set_33 : decode cX11_set 33 = .ok (.iconst 0, 1) := by decide +kernel
theorem dX11_set_34 : decode cX11_set 34 = .ok (.iconst 4, 1) := by decide +kernel
theorem dX11_set_35 : decode cX11_set 35 = .ok (.invokestatic 62, 3) := by decide +kernel
theorem dX11_set_38 : decode cX11_set 38 = .ok (.ifCond .eq 30, 3) := by decide +kernel
theorem dX11_set_41 : decode cX11_set 41 = .ok (.iload_n 2, 1) := by decide +kernel
theorem dX11_set_42 : decode cX11_set 42 = .ok (.iload_n 1, 1) := by decide +kernel
theorem dX11_set_43 : decode cX11_set 43 = .ok (.ifCond .ne 8, 3) := by decide +kernel
theorem dX11_set_46 : decode cX11_set 46 = .ok (.bipush 12, 2) := by decide +kernel
theorem dX11_set_48 : decode cX11_set 48 = .ok (.goto 13, 3) := by decide +kernel
theorem dX11_set_51 : decode cX11_set 51 = .ok (.iload_n 1, 1) := by decide +kernel
theorem dX11_set_52 : decode cX11_set 52 = .ok (.iconst 1, 1) := by decide +kernel
theorem dX11_set_53 : decode cX11_set 53 = .ok (.if_icmp .ne 7, 3) := by decide +kernel
theorem dX11_set_56 : decode cX11_set 56 = .ok (.iconst 4, 1) := by decide +kernel
theorem dX11_set_57 : decode cX11_set 57 = .ok (.goto 4, 3) := by decide +kernel
theorem dX11_set_60 : decode cX11_set 60 = .ok (.iconst 0, 1) := by decide +kernel
theorem dX11_set_61 : decode cX11_set 61 = .ok (.iload_n 3, 1) := by decide +kernel
theorem dX11_set_62 : decode cX11_set 62 = .ok (.invokestatic 62, 3) := by decide +kernel
theorem dX11_set_65 : decode cX11_set 65 = .ok (.ifCond .ne 6, 3) := by decide +kernel
theorem dX11_set_68 : decode cX11_set 68 = .ok (.bipush (-2), 2) := by decide +kernel
theorem dX11_set_70 : decode cX11_set 70 = .ok (.ireturn, 1) := by decide +kernel
theorem dX11_set_71 : decode cX11_set 71 = .ok (.aload_n 0, 1) := by decide +kernel
theorem dX11_set_72 : decode cX11_set 72 = .ok (.invokevirtual 116, 3) := by decide +kernel
theorem dX11_set_75 : decode cX11_set 75 = .ok (.aload_n 0, 1) := by decide +kernel
theorem dX11_set_76 : decode cX11_set 76 = .ok (.getfield 7, 3) := by decide +kernel
theorem dX11_set_79 : decode cX11_set 79 = .ok (.sipush 2041, 3) := by decide +kernel
theorem dX11_set_82 : decode cX11_set 82 = .ok (.iload_n 1, 1) := by decide +kernel
theorem dX11_set_83 : decode cX11_set 83 = .ok (.iadd, 1) := by decide +kernel
theorem dX11_set_84 : decode cX11_set 84 = .ok (.iaload, 1) := by decide +kernel
theorem dX11_set_85 : decode cX11_set 85 = .ok (.istore 4, 2) := by decide +kernel
theorem dX11_set_87 : decode cX11_set 87 = .ok (.aload_n 0, 1) := by decide +kernel
theorem dX11_set_88 : decode cX11_set 88 = .ok (.getfield 7, 3) := by decide +kernel
theorem dX11_set_91 : decode cX11_set 91 = .ok (.sipush 2041, 3) := by decide +kernel
theorem dX11_set_94 : decode cX11_set 94 = .ok (.iload_n 1, 1) := by decide +kernel
theorem dX11_set_95 : decode cX11_set 95 = .ok (.iadd, 1) := by decide +kernel
theorem dX11_set_96 : decode cX11_set 96 = .ok (.iload_n 2, 1) := by decide +kernel
theorem dX11_set_97 : decode cX11_set 97 = .ok (.iastore, 1) := by decide +kernel
theorem dX11_set_98 : decode cX11_set 98 = .ok (.iload 4, 2) := by decide +kernel
theorem dX11_set_100 : decode cX11_set 100 = .ok (.ireturn, 1) := by decide +kernel
theorem dX11_shown_0 : decode cX11_shown 0 = .ok (.aload_n 0, 1) := by decide +kernel
theorem dX11_shown_1 : decode cX11_shown 1 = .ok (.aload_n 0, 1) := by decide +kernel
theorem dX11_shown_2 : decode cX11_shown 2 = .ok (.getfield 22, 3) := by decide +kernel
theorem dX11_shown_5 : decode cX11_shown 5 = .ok (.iload_n 1, 1) := by decide +kernel
theorem dX11_shown_6 : decode cX11_shown 6 = .ok (.iaload, 1) := by decide +kernel
theorem dX11_shown_7 : decode cX11_shown 7 = .ok (.invokevirtual 185, 3) := by decide +kernel
theorem dX11_shown_10 : decode cX11_shown 10 = .ok (.istore_n 2, 1) := by decide +kernel
theorem dX11_shown_11 : decode cX11_shown 11 = .ok (.aload_n 0, 1) := by decide +kernel
theorem dX11_shown_12 : decode cX11_shown 12 = .ok (.getfield 25, 3) := by decide +kernel
theorem dX11_shown_15 : decode cX11_shown 15 = .ok (.iload_n 1, 1) := by decide +kernel
theorem dX11_shown_16 : decode cX11_shown 16 = .ok (.iaload, 1) := by decide +kernel
theorem dX11_shown_17 : decode cX11_shown 17 = .ok (.ifCond .ne 26, 3) := by decide +kernel
theorem dX11_shown_20 : decode cX11_shown 20 = .ok (.aload_n 0, 1) := by decide +kernel
theorem dX11_shown_21 : decode cX11_shown 21 = .ok (.aload_n 0, 1) := by decide +kernel
theorem dX11_shown_22 : decode cX11_shown 22 = .ok (.getfield 22, 3) := by decide +kernel
theorem dX11_shown_25 : decode cX11_shown 25 = .ok (.iload_n 1, 1) := by decide +kernel
theorem dX11_shown_26 : decode cX11_shown 26 = .ok (.iaload, 1) := by decide +kernel
theorem dX11_shown_27 : decode cX11_shown 27 = .ok (.invokevirtual 147, 3) := by decide +kernel
theorem dX11_shown_30 : decode cX11_shown 30 = .ok (.ifCond .ne 13, 3) := by decide +kernel
theorem dX11_shown_33 : decode cX11_shown 33 = .ok (.iload_n 2, 1) := by decide +kernel
theorem dX11_shown_34 : decode cX11_shown 34 = .ok (.iconst 5, 1) := by decide +kernel
theorem dX11_shown_35 : decode cX11_shown 35 = .ok (.irem, 1) := by decide +kernel
theorem dX11_shown_36 : decode cX11_shown 36 = .ok (.ifCond .ne 7, 3) := by decide +kernel
theorem dX11_shown_39 : decode cX11_shown 39 = .ok (.iload_n 2, 1) := by decide +kernel
theorem dX11_shown_40 : decode cX11_shown 40 = .ok (.goto 4, 3) := by decide +kernel
theorem dX11_shown_43 : decode cX11_shown 43 = .ok (.iconst 0, 1) := by decide +kernel
theorem dX11_shown_44 : decode cX11_shown 44 = .ok (.ireturn, 1) := by decide +kernel
theorem dX11_rowPart_0 : decode cX11_rowPart 0 = .ok (.iload_n 2, 1) := by decide +kernel
theorem dX11_rowPart_1 : decode cX11_rowPart 1 = .ok (.tableswitch 102 0 7 #[47, 54, 61, 68, 75, 82, 89, 95], 47) := by decide +kernel
theorem dX11_rowPart_48 : decode cX11_rowPart 48 = .ok (.aload_n 0, 1) := by decide +kernel
theorem dX11_rowPart_49 : decode cX11_rowPart 49 = .ok (.getfield 22, 3) := by decide +kernel
theorem dX11_rowPart_52 : decode cX11_rowPart 52 = .ok (.iload_n 1, 1) := by decide +kernel
theorem dX11_rowPart_53 : decode cX11_rowPart 53 = .ok (.iaload, 1) := by decide +kernel
theorem dX11_rowPart_54 : decode cX11_rowPart 54 = .ok (.ireturn, 1) := by decide +kernel
theorem dX11_rowPart_55 : decode cX11_rowPart 55 = .ok (.aload_n 0, 1) := by decide +kernel
theorem dX11_rowPart_56 : decode cX11_rowPart 56 = .ok (.getfield 25, 3) := by decide +kernel
theorem dX11_rowPart_59 : decode cX11_rowPart 59 = .ok (.iload_n 1, 1) := by decide +kernel
theorem dX11_rowPart_60 : decode cX11_rowPart 60 = .ok (.iaload, 1) := by decide +kernel
theorem dX11_rowPart_61 : decode cX11_rowPart 61 = .ok (.ireturn, 1) := by decide +kernel
theorem dX11_rowPart_62 : decode cX11_rowPart 62 = .ok (.aload_n 0, 1) := by decide +kernel
theorem dX11_rowPart_63 : decode cX11_rowPart 63 = .ok (.getfield 40, 3) := by decide +kernel
theorem dX11_rowPart_66 : decode cX11_rowPart 66 = .ok (.iload_n 1, 1) := by decide +kernel
theorem dX11_rowPart_67 : decode cX11_rowPart 67 = .ok (.iaload, 1) := by decide +kernel
theorem dX11_rowPart_68 : decode cX11_rowPart 68 = .ok (.ireturn, 1) := by decide +kernel
theorem dX11_rowPart_69 : decode cX11_rowPart 69 = .ok (.aload_n 0, 1) := by decide +kernel
theorem dX11_rowPart_70 : decode cX11_rowPart 70 = .ok (.getfield 43, 3) := by decide +kernel
theorem dX11_rowPart_73 : decode cX11_rowPart 73 = .ok (.iload_n 1, 1) := by decide +kernel
theorem dX11_rowPart_74 : decode cX11_rowPart 74 = .ok (.iaload, 1) := by decide +kernel
theorem dX11_rowPart_75 : decode cX11_rowPart 75 = .ok (.ireturn, 1) := by decide +kernel
theorem dX11_rowPart_76 : decode cX11_rowPart 76 = .ok (.aload_n 0, 1) := by decide +kernel
theorem dX11_rowPart_77 : decode cX11_rowPart 77 = .ok (.getfield 28, 3) := by decide +kernel
theorem dX11_rowPart_80 : decode cX11_rowPart 80 = .ok (.iload_n 1, 1) := by decide +kernel
theorem dX11_rowPart_81 : decode cX11_rowPart 81 = .ok (.iaload, 1) := by decide +kernel
theorem dX11_rowPart_82 : decode cX11_rowPart 82 = .ok (.ireturn, 1) := by decide +kernel
theorem dX11_rowPart_83 : decode cX11_rowPart 83 = .ok (.aload_n 0, 1) := by decide +kernel
theorem dX11_rowPart_84 : decode cX11_rowPart 84 = .ok (.getfield 31, 3) := by decide +kernel
theorem dX11_rowPart_87 : decode cX11_rowPart 87 = .ok (.iload_n 1, 1) := by decide +kernel
theorem dX11_rowPart_88 : decode cX11_rowPart 88 = .ok (.iaload, 1) := by decide +kernel
theorem dX11_rowPart_89 : decode cX11_rowPart 89 = .ok (.ireturn, 1) := by decide +kernel
theorem dX11_rowPart_90 : decode cX11_rowPart 90 = .ok (.aload_n 0, 1) := by decide +kernel
theorem dX11_rowPart_91 : decode cX11_rowPart 91 = .ok (.iload_n 1, 1) := by decide +kernel
theorem dX11_rowPart_92 : decode cX11_rowPart 92 = .ok (.invokevirtual 194, 3) := by decide +kernel
theorem dX11_rowPart_95 : decode cX11_rowPart 95 = .ok (.ireturn, 1) := by decide +kernel
theorem dX11_rowPart_96 : decode cX11_rowPart 96 = .ok (.aload_n 0, 1) := by decide +kernel
theorem dX11_rowPart_97 : decode cX11_rowPart 97 = .ok (.getfield 34, 3) := by decide +kernel
theorem dX11_rowPart_100 : decode cX11_rowPart 100 = .ok (.iload_n 1, 1) := by decide +kernel
theorem dX11_rowPart_101 : decode cX11_rowPart 101 = .ok (.iaload, 1) := by decide +kernel
theorem dX11_rowPart_102 : decode cX11_rowPart 102 = .ok (.ireturn, 1) := by decide +kernel
theorem dX11_rowPart_103 : decode cX11_rowPart 103 = .ok (.aload_n 0, 1) := by decide +kernel
theorem dX11_rowPart_104 : decode cX11_rowPart 104 = .ok (.getfield 28, 3) := by decide +kernel
theorem dX11_rowPart_107 : decode cX11_rowPart 107 = .ok (.iload_n 1, 1) := by decide +kernel
theorem dX11_rowPart_108 : decode cX11_rowPart 108 = .ok (.iaload, 1) := by decide +kernel
theorem dX11_rowPart_109 : decode cX11_rowPart 109 = .ok (.aload_n 0, 1) := by decide +kernel
theorem dX11_rowPart_110 : decode cX11_rowPart 110 = .ok (.getfield 31, 3) := by decide +kernel
theorem dX11_rowPart_113 : decode cX11_rowPart 113 = .ok (.iload_n 1, 1) := by decide +kernel
theorem dX11_rowPart_114 : decode cX11_rowPart 114 = .ok (.iaload, 1) := by decide +kernel
theorem dX11_rowPart_115 : decode cX11_rowPart 115 = .ok (.iadd, 1) := by decide +kernel
theorem dX11_rowPart_116 : decode cX11_rowPart 116 = .ok (.ireturn, 1) := by decide +kernel
theorem dX11_row_0 : decode cX11_row 0 = .ok (.iload_n 1, 1) := by decide +kernel
theorem dX11_row_1 : decode cX11_row 1 = .ok (.ifCond .lt 13, 3) := by decide +kernel
theorem dX11_row_4 : decode cX11_row 4 = .ok (.iload_n 2, 1) := by decide +kernel
theorem dX11_row_5 : decode cX11_row 5 = .ok (.iconst 0, 1) := by decide +kernel
theorem dX11_row_6 : decode cX11_row 6 = .ok (.bipush 8, 2) := by decide +kernel
theorem dX11_row_8 : decode cX11_row 8 = .ok (.invokestatic 62, 3) := by decide +kernel
theorem dX11_row_11 : decode cX11_row 11 = .ok (.ifCond .ne 6, 3) := by decide +kernel
theorem dX11_row_14 : decode cX11_row 14 = .ok (.bipush (-2), 2) := by decide +kernel
theorem dX11_row_16 : decode cX11_row 16 = .ok (.ireturn, 1) := by decide +kernel
theorem dX11_row_17 : decode cX11_row 17 = .ok (.aload_n 0, 1) := by decide +kernel
theorem dX11_row_18 : decode cX11_row 18 = .ok (.invokevirtual 188, 3) := by decide +kernel
theorem dX11_row_21 : decode cX11_row 21 = .ok (.iload_n 1, 1) := by decide +kernel
theorem dX11_row_22 : decode cX11_row 22 = .ok (.aload_n 0, 1) := by decide +kernel
theorem dX11_row_23 : decode cX11_row 23 = .ok (.getfield 150, 3) := by decide +kernel
theorem dX11_row_26 : decode cX11_row 26 = .ok (.if_icmp .ge 12, 3) := by decide +kernel
theorem dX11_row_29 : decode cX11_row 29 = .ok (.aload_n 0, 1) := by decide +kernel
theorem dX11_row_30 : decode cX11_row 30 = .ok (.iload_n 1, 1) := by decide +kernel
theorem dX11_row_31 : decode cX11_row 31 = .ok (.iload_n 2, 1) := by decide +kernel
theorem dX11_row_32 : decode cX11_row 32 = .ok (.invokevirtual 197, 3) := by decide +kernel
theorem dX11_row_35 : decode cX11_row 35 = .ok (.goto 4, 3) := by decide +kernel
theorem dX11_row_38 : decode cX11_row 38 = .ok (.iconst (-1), 1) := by decide +kernel
theorem dX11_row_39 : decode cX11_row 39 = .ok (.ireturn, 1) := by decide +kernel
theorem dX11_byteAt_0 : decode cX11_byteAt 0 = .ok (.iload_n 2, 1) := by decide +kernel
theorem dX11_byteAt_1 : decode cX11_byteAt 1 = .ok (.aload_n 0, 1) := by decide +kernel
theorem dX11_byteAt_2 : decode cX11_byteAt 2 = .ok (.getfield 28, 3) := by decide +kernel
theorem dX11_byteAt_5 : decode cX11_byteAt 5 = .ok (.iload_n 1, 1) := by decide +kernel
theorem dX11_byteAt_6 : decode cX11_byteAt 6 = .ok (.iaload, 1) := by decide +kernel
theorem dX11_byteAt_7 : decode cX11_byteAt 7 = .ok (.isub, 1) := by decide +kernel
theorem dX11_byteAt_8 : decode cX11_byteAt 8 = .ok (.istore_n 3, 1) := by decide +kernel
theorem dX11_byteAt_9 : decode cX11_byteAt 9 = .ok (.iload_n 3, 1) := by decide +kernel
theorem dX11_byteAt_10 : decode cX11_byteAt 10 = .ok (.iconst 0, 1) := by decide +kernel
theorem dX11_byteAt_11 : decode cX11_byteAt 11 = .ok (.aload_n 0, 1) := by decide +kernel
theorem dX11_byteAt_12 : decode cX11_byteAt 12 = .ok (.getfield 31, 3) := by decide +kernel
theorem dX11_byteAt_15 : decode cX11_byteAt 15 = .ok (.iload_n 1, 1) := by decide +kernel
theorem dX11_byteAt_16 : decode cX11_byteAt 16 = .ok (.iaload, 1) := by decide +kernel
theorem dX11_byteAt_17 : decode cX11_byteAt 17 = .ok (.iconst 1, 1) := by decide +kernel
theorem dX11_byteAt_18 : decode cX11_byteAt 18 = .ok (.isub, 1) := by decide +kernel
theorem dX11_byteAt_19 : decode cX11_byteAt 19 = .ok (.invokestatic 62, 3) := by decide +kernel
theorem dX11_byteAt_22 : decode cX11_byteAt 22 = .ok (.ifCond .eq 26, 3) := by decide +kernel
theorem dX11_byteAt_25 : decode cX11_byteAt 25 = .ok (.aload_n 0, 1) := by decide +kernel
theorem dX11_byteAt_26 : decode cX11_byteAt 26 = .ok (.aload_n 0, 1) := by decide +kernel
theorem dX11_byteAt_27 : decode cX11_byteAt 27 = .ok (.getfield 22, 3) := by decide +kernel
theorem dX11_byteAt_30 : decode cX11_byteAt 30 = .ok (.iload_n 1, 1) := by decide +kernel
theorem dX11_byteAt_31 : decode cX11_byteAt 31 = .ok (.iaload, 1) := by decide +kernel
theorem dX11_byteAt_32 : decode cX11_byteAt 32 = .ok (.iconst 5, 1) := by decide +kernel
theorem dX11_byteAt_33 : decode cX11_byteAt 33 = .ok (.aload_n 0, 1) := by decide +kernel
theorem dX11_byteAt_34 : decode cX11_byteAt 34 = .ok (.getfield 37, 3) := by decide +kernel
theorem dX11_byteAt_37 : decode cX11_byteAt 37 = .ok (.iload_n 1, 1) := by decide +kernel
theorem dX11_byteAt_38 : decode cX11_byteAt 38 = .ok (.iaload, 1) := by decide +kernel
theorem dX11_byteAt_39 : decode cX11_byteAt 39 = .ok (.iadd, 1) := by decide +kernel
theorem dX11_byteAt_40 : decode cX11_byteAt 40 = .ok (.iload_n 3, 1) := by decide +kernel
theorem dX11_byteAt_41 : decode cX11_byteAt 41 = .ok (.iadd, 1) := by decide +kernel
theorem dX11_byteAt_42 : decode cX11_byteAt 42 = .ok (.invokevirtual 130, 3) := by decide +kernel
theorem dX11_byteAt_45 : decode cX11_byteAt 45 = .ok (.goto 5, 3) := by decide +kernel
theorem dX11_byteAt_48 : decode cX11_byteAt 48 = .ok (.bipush 32, 2) := by decide +kernel
theorem dX11_byteAt_50 : decode cX11_byteAt 50 = .ok (.ireturn, 1) := by decide +kernel
theorem dX11_at_0 : decode cX11_at 0 = .ok (.aload_n 0, 1) := by decide +kernel
theorem dX11_at_1 : decode cX11_at 1 = .ok (.invokevirtual 188, 3) := by decide +kernel
theorem dX11_at_4 : decode cX11_at 4 = .ok (.iload_n 1, 1) := by decide +kernel
theorem dX11_at_5 : decode cX11_at 5 = .ok (.iconst 0, 1) := by decide +kernel
theorem dX11_at_6 : decode cX11_at 6 = .ok (.aload_n 0, 1) := by decide +kernel
theorem dX11_at_7 : decode cX11_at 7 = .ok (.invokevirtual 200, 3) := by decide +kernel
theorem dX11_at_10 : decode cX11_at 10 = .ok (.iconst 1, 1) := by decide +kernel
theorem dX11_at_11 : decode cX11_at 11 = .ok (.isub, 1) := by decide +kernel
theorem dX11_at_12 : decode cX11_at 12 = .ok (.invokestatic 62, 3) := by decide +kernel
theorem dX11_at_15 : decode cX11_at 15 = .ok (.ifCond .eq 39, 3) := by decide +kernel
theorem dX11_at_18 : decode cX11_at 18 = .ok (.iload_n 2, 1) := by decide +kernel
theorem dX11_at_19 : decode cX11_at 19 = .ok (.iconst 0, 1) := by decide +kernel
theorem dX11_at_20 : decode cX11_at 20 = .ok (.aload_n 0, 1) := by decide +kernel
theorem dX11_at_21 : decode cX11_at 21 = .ok (.getfield 7, 3) := by decide +kernel
theorem dX11_at_24 : decode cX11_at 24 = .ok (.sipush 2042, 3) := by decide +kernel
theorem dX11_at_27 : decode cX11_at 27 = .ok (.iaload, 1) := by decide +kernel
theorem dX11_at_28 : decode cX11_at 28 = .ok (.iconst 1, 1) := by decide +kernel
theorem dX11_at_29 : decode cX11_at 29 = .ok (.isub, 1) := by decide +kernel
theorem dX11_at_30 : decode cX11_at 30 = .ok (.invokestatic 62, 3) := by decide +kernel
theorem dX11_at_33 : decode cX11_at 33 = .ok (.ifCond .eq 21, 3) := by decide +kernel
theorem dX11_at_36 : decode cX11_at 36 = .ok (.iload_n 3, 1) := by decide +kernel
theorem dX11_at_37 : decode cX11_at 37 = .ok (.iconst 0, 1) := by decide +kernel
theorem dX11_at_38 : decode cX11_at 38 = .ok (.aload_n 0, 1) := by decide +kernel
theorem dX11_at_39 : decode cX11_at 39 = .ok (.getfield 7, 3) := by decide +kernel
theorem dX11_at_42 : decode cX11_at 42 = .ok (.sipush 2041, 3) := by decide +kernel
theorem dX11_at_45 : decode cX11_at 45 = .ok (.iaload, 1) := by decide +kernel
theorem dX11_at_46 : decode cX11_at 46 = .ok (.iconst 1, 1) := by decide +kernel
theorem dX11_at_47 : decode cX11_at 47 = .ok (.isub, 1) := by decide +kernel
theorem dX11_at_48 : decode cX11_at 48 = .ok (.invokestatic 62, 3) := by decide +kernel
theorem dX11_at_51 : decode cX11_at 51 = .ok (.ifCond .ne 6, 3) := by decide +kernel
theorem dX11_at_54 : decode cX11_at 54 = .ok (.bipush (-2), 2) := by decide +kernel
theorem dX11_at_56 : decode cX11_at 56 = .ok (.ireturn, 1) := by decide +kernel
theorem dX11_at_57 : decode cX11_at 57 = .ok (.iconst 0, 1) := by decide +kernel
theorem dX11_at_58 : decode cX11_at 58 = .ok (.istore 4, 2) := by decide +kernel
theorem dX11_at_60 : decode cX11_at 60 = .ok (.iload 4, 2) := by decide +kernel
theorem dX11_at_62 : decode cX11_at 62 = .ok (.aload_n 0, 1) := by decide +kernel
theorem dX11_at_63 : decode cX11_at 63 = .ok (.getfield 150, 3) := by decide +kernel
theorem dX11_at_66 : decode cX11_at 66 = .ok (.if_icmp .ge 39, 3) := by decide +kernel
theorem dX11_at_69 : decode cX11_at 69 = .ok (.aload_n 0, 1) := by decide +kernel
theorem dX11_at_70 : decode cX11_at 70 = .ok (.getfield 40, 3) := by decide +kernel
theorem dX11_at_73 : decode cX11_at 73 = .ok (.iload 4, 2) := by decide +kernel
theorem dX11_at_75 : decode cX11_at 75 = .ok (.iaload, 1) := by decide +kernel
theorem dX11_at_76 : decode cX11_at 76 = .ok (.iload_n 1, 1) := by decide +kernel
theorem dX11_at_77 : decode cX11_at 77 = .ok (.if_icmp .ne 22, 3) := by decide +kernel
theorem dX11_at_80 : decode cX11_at 80 = .ok (.aload_n 0, 1) := by decide +kernel
theorem dX11_at_81 : decode cX11_at 81 = .ok (.getfield 43, 3) := by decide +kernel
theorem dX11_at_84 : decode cX11_at 84 = .ok (.iload 4, 2) := by decide +kernel
theorem dX11_at_86 : decode cX11_at 86 = .ok (.iaload, 1) := by decide +kernel
theorem dX11_at_87 : decode cX11_at 87 = .ok (.iload_n 2, 1) := by decide +kernel
theorem dX11_at_88 : decode cX11_at 88 = .ok (.if_icmp .ne 11, 3) := by decide +kernel
theorem dX11_at_91 : decode cX11_at 91 = .ok (.aload_n 0, 1) := by decide +kernel
theorem dX11_at_92 : decode cX11_at 92 = .ok (.iload 4, 2) := by decide +kernel
theorem dX11_at_94 : decode cX11_at 94 = .ok (.iload_n 3, 1) := by decide +kernel
theorem dX11_at_95 : decode cX11_at 95 = .ok (.invokevirtual 203, 3) := by decide +kernel
theorem dX11_at_98 : decode cX11_at 98 = .ok (.ireturn, 1) := by decide +kernel
theorem dX11_at_99 : decode cX11_at 99 = .ok (.iinc 4 1, 3) := by decide +kernel
theorem dX11_at_102 : decode cX11_at 102 = .ok (.goto (-42), 3) := by decide +kernel
theorem dX11_at_105 : decode cX11_at 105 = .ok (.bipush 32, 2) := by decide +kernel
theorem dX11_at_107 : decode cX11_at 107 = .ok (.ireturn, 1) := by decide +kernel
theorem dX11_firstOn_0 : decode cX11_firstOn 0 = .ok (.iconst 0, 1) := by decide +kernel
theorem dX11_firstOn_1 : decode cX11_firstOn 1 = .ok (.istore_n 2, 1) := by decide +kernel
theorem dX11_firstOn_2 : decode cX11_firstOn 2 = .ok (.aload_n 0, 1) := by decide +kernel
theorem dX11_firstOn_3 : decode cX11_firstOn 3 = .ok (.getfield 40, 3) := by decide +kernel
theorem dX11_firstOn_6 : decode cX11_firstOn 6 = .ok (.iload_n 2, 1) := by decide +kernel
theorem dX11_firstOn_7 : decode cX11_firstOn 7 = .ok (.iaload, 1) := by decide +kernel
theorem dX11_firstOn_8 : decode cX11_firstOn 8 = .ok (.iload_n 1, 1) := by decide +kernel
theorem dX11_firstOn_9 : decode cX11_firstOn 9 = .ok (.if_icmp .eq 9, 3) := by decide +kernel
theorem dX11_firstOn_12 : decode cX11_firstOn 12 = .ok (.iinc 2 1, 3) := by decide +kernel
theorem dX11_firstOn_15 : decode cX11_firstOn 15 = .ok (.goto (-13), 3) := by decide +kernel
theorem dX11_firstOn_18 : decode cX11_firstOn 18 = .ok (.iload_n 2, 1) := by decide +kernel
theorem dX11_firstOn_19 : decode cX11_firstOn 19 = .ok (.ireturn, 1) := by decide +kernel
theorem dX11_isMarked_0 : decode cX11_isMarked 0 = .ok (.iload_n 1, 1) := by decide +kernel
theorem dX11_isMarked_1 : decode cX11_isMarked 1 = .ok (.iconst 1, 1) := by decide +kernel
theorem dX11_isMarked_2 : decode cX11_isMarked 2 = .ok (.iadd, 1) := by decide +kernel
theorem dX11_isMarked_3 : decode cX11_isMarked 3 = .ok (.aload_n 0, 1) := by decide +kernel
theorem dX11_isMarked_4 : decode cX11_isMarked 4 = .ok (.invokevirtual 200, 3) := by decide +kernel
theorem dX11_isMarked_7 : decode cX11_isMarked 7 = .ok (.if_icmp .lt 5, 3) := by decide +kernel
theorem dX11_isMarked_10 : decode cX11_isMarked 10 = .ok (.iconst 0, 1) := by decide +kernel
theorem dX11_isMarked_11 : decode cX11_isMarked 11 = .ok (.ireturn, 1) := by decide +kernel
theorem dX11_isMarked_12 : decode cX11_isMarked 12 = .ok (.aload_n 0, 1) := by decide +kernel
theorem dX11_isMarked_13 : decode cX11_isMarked 13 = .ok (.iload_n 1, 1) := by decide +kernel
theorem dX11_isMarked_14 : decode cX11_isMarked 14 = .ok (.iconst 1, 1) := by decide +kernel
theorem dX11_isMarked_15 : decode cX11_isMarked 15 = .ok (.iadd, 1) := by decide +kernel
theorem dX11_isMarked_16 : decode cX11_isMarked 16 = .ok (.invokevirtual 206, 3) := by decide +kernel
theorem dX11_isMarked_19 : decode cX11_isMarked 19 = .ok (.istore_n 2, 1) := by decide +kernel
theorem dX11_isMarked_20 : decode cX11_isMarked 20 = .ok (.aload_n 0, 1) := by decide +kernel
theorem dX11_isMarked_21 : decode cX11_isMarked 21 = .ok (.getfield 25, 3) := by decide +kernel
theorem dX11_isMarked_24 : decode cX11_isMarked 24 = .ok (.iload_n 2, 1) := by decide +kernel
theorem dX11_isMarked_25 : decode cX11_isMarked 25 = .ok (.iaload, 1) := by decide +kernel
theorem dX11_isMarked_26 : decode cX11_isMarked 26 = .ok (.ifCond .ne 20, 3) := by decide +kernel
theorem dX11_isMarked_29 : decode cX11_isMarked 29 = .ok (.aload_n 0, 1) := by decide +kernel
theorem dX11_isMarked_30 : decode cX11_isMarked 30 = .ok (.aload_n 0, 1) := by decide +kernel
theorem dX11_isMarked_31 : decode cX11_isMarked 31 = .ok (.getfield 22, 3) := by decide +kernel
theorem dX11_isMarked_34 : decode cX11_isMarked 34 = .ok (.iload_n 2, 1) := by decide +kernel
theorem dX11_isMarked_35 : decode cX11_isMarked 35 = .ok (.iaload, 1) := by decide +kernel
theorem dX11_isMarked_36 : decode cX11_isMarked 36 = .ok (.invokevirtual 140, 3) := by decide +kernel
theorem dX11_isMarked_39 : decode cX11_isMarked 39 = .ok (.ifCond .eq 7, 3) := by decide +kernel
theorem dX11_isMarked_42 : decode cX11_isMarked 42 = .ok (.iconst 1, 1) := by decide +kernel
theorem dX11_isMarked_43 : decode cX11_isMarked 43 = .ok (.goto 4, 3) := by decide +kernel
theorem dX11_isMarked_46 : decode cX11_isMarked 46 = .ok (.iconst 0, 1) := by decide +kernel
theorem dX11_isMarked_47 : decode cX11_isMarked 47 = .ok (.ireturn, 1) := by decide +kernel
theorem dX11_pagePart_0 : decode cX11_pagePart 0 = .ok (.iconst 0, 1) := by decide +kernel
theorem dX11_pagePart_1 : decode cX11_pagePart 1 = .ok (.istore_n 3, 1) := by decide +kernel
theorem dX11_pagePart_2 : decode cX11_pagePart 2 = .ok (.iconst 0, 1) := by decide +kernel
theorem dX11_pagePart_3 : decode cX11_pagePart 3 = .ok (.istore 4, 2) := by decide +kernel
theorem dX11_pagePart_5 : decode cX11_pagePart 5 = .ok (.iconst 0, 1) := by decide +kernel
theorem dX11_pagePart_6 : decode cX11_pagePart 6 = .ok (.istore 5, 2) := by decide +kernel
theorem dX11_pagePart_8 : decode cX11_pagePart 8 = .ok (.iconst 0, 1) := by decide +kernel
theorem dX11_pagePart_9 : decode cX11_pagePart 9 = .ok (.istore 6, 2) := by decide +kernel
theorem dX11_pagePart_11 : decode cX11_pagePart 11 = .ok (.iload 6, 2) := by decide +kernel
theorem dX11_pagePart_13 : decode cX11_pagePart 13 = .ok (.aload_n 0, 1) := by decide +kernel
theorem dX11_pagePart_14 : decode cX11_pagePart 14 = .ok (.getfield 150, 3) := by decide +kernel
theorem dX11_pagePart_17 : decode cX11_pagePart 17 = .ok (.if_icmp .ge 52, 3) := by decide +kernel
theorem dX11_pagePart_20 : decode cX11_pagePart 20 = .ok (.aload_n 0, 1) := by decide +kernel
theorem dX11_pagePart_21 : decode cX11_pagePart 21 = .ok (.getfield 40, 3) := by decide +kernel
theorem dX11_pagePart_24 : decode cX11_pagePart 24 = .ok (.iload 6, 2) := by decide +kernel
theorem dX11_pagePart_26 : decode cX11_pagePart 26 = .ok (.iaload, 1) := by decide +kernel
theorem dX11_pagePart_27 : decode cX11_pagePart 27 = .ok (.iload_n 1, 1) := by decide +kernel
theorem dX11_pagePart_28 : decode cX11_pagePart 28 = .ok (.if_icmp .ne 35, 3) := by decide +kernel
theorem dX11_pagePart_31 : decode cX11_pagePart 31 = .ok (.iinc 3 1, 3) := by decide +kernel
theorem dX11_pagePart_34 : decode cX11_pagePart 34 = .ok (.aload_n 0, 1) := by decide +kernel
theorem dX11_pagePart_35 : decode cX11_pagePart 35 = .ok (.getfield 43, 3) := by decide +kernel
theorem dX11_pagePart_38 : decode cX11_pagePart 38 = .ok (.iload 6, 2) := by decide +kernel
theorem dX11_pagePart_40 : decode cX11_pagePart 40 = .ok (.iaload, 1) := by decide +kernel
theorem dX11_pagePart_41 : decode cX11_pagePart 41 = .ok (.istore 4, 2) := by decide +kernel
theorem dX11_pagePart_43 : decode cX11_pagePart 43 = .ok (.iload 5, 2) := by decide +kernel
theorem dX11_pagePart_45 : decode cX11_pagePart 45 = .ok (.aload_n 0, 1) := by decide +kernel
theorem dX11_pagePart_46 : decode cX11_pagePart 46 = .ok (.getfield 25, 3) := by decide +kernel
theorem dX11_pagePart_49 : decode cX11_pagePart 49 = .ok (.iload 6, 2) := by decide +kernel
theorem dX11_pagePart_51 : decode cX11_pagePart 51 = .ok (.iaload, 1) := by decide +kernel
theorem dX11_pagePart_52 : decode cX11_pagePart 52 = .ok (.ifCond .ne 7, 3) := by decide +kernel
theorem dX11_pagePart_55 : decode cX11_pagePart 55 = .ok (.iconst 1, 1) := by decide +kernel
theorem dX11_pagePart_56 : decode cX11_pagePart 56 = .ok (.goto 4, 3) := by decide +kernel
theorem dX11_pagePart_59 : decode cX11_pagePart 59 = .ok (.iconst 0, 1) := by decide +kernel
theorem dX11_pagePart_60 : decode cX11_pagePart 60 = .ok (.iadd, 1) := by decide +kernel
theorem dX11_pagePart_61 : decode cX11_pagePart 61 = .ok (.istore 5, 2) := by decide +kernel
theorem dX11_pagePart_63 : decode cX11_pagePart 63 = .ok (.iinc 6 1, 3) := by decide +kernel
theorem dX11_pagePart_66 : decode cX11_pagePart 66 = .ok (.goto (-55), 3) := by decide +kernel
theorem dX11_pagePart_69 : decode cX11_pagePart 69 = .ok (.iload_n 2, 1) := by decide +kernel
theorem dX11_pagePart_70 : decode cX11_pagePart 70 = .ok (.tableswitch 57 0 3 #[30, 32, 37, 51], 30) := by decide +kernel
theorem dX11_pagePart_100 : decode cX11_pagePart 100 = .ok (.iload_n 3, 1) := by decide +kernel
theorem dX11_pagePart_101 : decode cX11_pagePart 101 = .ok (.ireturn, 1) := by decide +kernel
theorem dX11_pagePart_102 : decode cX11_pagePart 102 = .ok (.iload 4, 2) := by decide +kernel
theorem dX11_pagePart_104 : decode cX11_pagePart 104 = .ok (.iconst 1, 1) := by decide +kernel
theorem dX11_pagePart_105 : decode cX11_pagePart 105 = .ok (.iadd, 1) := by decide +kernel
theorem dX11_pagePart_106 : decode cX11_pagePart 106 = .ok (.ireturn, 1) := by decide +kernel
theorem dX11_pagePart_107 : decode cX11_pagePart 107 = .ok (.aload_n 0, 1) := by decide +kernel
theorem dX11_pagePart_108 : decode cX11_pagePart 108 = .ok (.iload_n 1, 1) := by decide +kernel
theorem dX11_pagePart_109 : decode cX11_pagePart 109 = .ok (.invokevirtual 209, 3) := by decide +kernel
theorem dX11_pagePart_112 : decode cX11_pagePart 112 = .ok (.ifCond .eq 7, 3) := by decide +kernel
theorem dX11_pagePart_115 : decode cX11_pagePart 115 = .ok (.iconst 1, 1) := by decide +kernel
theorem dX11_pagePart_116 : decode cX11_pagePart 116 = .ok (.goto 4, 3) := by decide +kernel
theorem dX11_pagePart_119 : decode cX11_pagePart 119 = .ok (.iconst 0, 1) := by decide +kernel
theorem dX11_pagePart_120 : decode cX11_pagePart 120 = .ok (.ireturn, 1) := by decide +kernel
theorem dX11_pagePart_121 : decode cX11_pagePart 121 = .ok (.aload_n 0, 1) := by decide +kernel
theorem dX11_pagePart_122 : decode cX11_pagePart 122 = .ok (.iload_n 1, 1) := by decide +kernel
theorem dX11_pagePart_123 : decode cX11_pagePart 123 = .ok (.invokevirtual 206, 3) := by decide +kernel
theorem dX11_pagePart_126 : decode cX11_pagePart 126 = .ok (.ireturn, 1) := by decide +kernel
theorem dX11_pagePart_127 : decode cX11_pagePart 127 = .ok (.iload 5, 2) := by decide +kernel
theorem dX11_pagePart_129 : decode cX11_pagePart 129 = .ok (.ireturn, 1) := by decide +kernel
theorem dX11_page_0 : decode cX11_page 0 = .ok (.aload_n 0, 1) := by decide +kernel
theorem dX11_page_1 : decode cX11_page 1 = .ok (.invokevirtual 188, 3) := by decide +kernel
theorem dX11_page_4 : decode cX11_page 4 = .ok (.iload_n 1, 1) := by decide +kernel
theorem dX11_page_5 : decode cX11_page 5 = .ok (.iconst 0, 1) := by decide +kernel
theorem dX11_page_6 : decode cX11_page 6 = .ok (.aload_n 0, 1) := by decide +kernel
theorem dX11_page_7 : decode cX11_page 7 = .ok (.invokevirtual 200, 3) := by decide +kernel
theorem dX11_page_10 : decode cX11_page 10 = .ok (.iconst 1, 1) := by decide +kernel
theorem dX11_page_11 : decode cX11_page 11 = .ok (.isub, 1) := by decide +kernel
theorem dX11_page_12 : decode cX11_page 12 = .ok (.invokestatic 62, 3) := by decide +kernel
theorem dX11_page_15 : decode cX11_page 15 = .ok (.ifCond .eq 21, 3) := by decide +kernel
theorem dX11_page_18 : decode cX11_page 18 = .ok (.iload_n 2, 1) := by decide +kernel
theorem dX11_page_19 : decode cX11_page 19 = .ok (.iconst 0, 1) := by decide +kernel
theorem dX11_page_20 : decode cX11_page 20 = .ok (.iconst 4, 1) := by decide +kernel
theorem dX11_page_21 : decode cX11_page 21 = .ok (.invokestatic 62, 3) := by decide +kernel
theorem dX11_page_24 : decode cX11_page 24 = .ok (.ifCond .eq 12, 3) := by decide +kernel
theorem dX11_page_27 : decode cX11_page 27 = .ok (.aload_n 0, 1) := by decide +kernel
theorem dX11_page_28 : decode cX11_page 28 = .ok (.iload_n 1, 1) := by decide +kernel
theorem dX11_page_29 : decode cX11_page 29 = .ok (.iload_n 2, 1) := by decide +kernel
theorem dX11_page_30 : decode cX11_page 30 = .ok (.invokevirtual 212, 3) := by decide +kernel
theorem dX11_page_33 : decode cX11_page 33 = .ok (.goto 5, 3) := by decide +kernel
theorem dX11_page_36 : decode cX11_page 36 = .ok (.bipush (-2), 2) := by decide +kernel
theorem dX11_page_38 : decode cX11_page 38 = .ok (.ireturn, 1) := by decide +kernel
theorem dX11_aim_0 : decode cX11_aim 0 = .ok (.iload_n 3, 1) := by decide +kernel
theorem dX11_aim_1 : decode cX11_aim 1 = .ok (.iconst 1, 1) := by decide +kernel
theorem dX11_aim_2 : decode cX11_aim 2 = .ok (.iadd, 1) := by decide +kernel
theorem dX11_aim_3 : decode cX11_aim 3 = .ok (.istore 4, 2) := by decide +kernel
theorem dX11_aim_5 : decode cX11_aim 5 = .ok (.iload_n 2, 1) := by decide +kernel
theorem dX11_aim_6 : decode cX11_aim 6 = .ok (.iload_n 3, 1) := by decide +kernel
theorem dX11_aim_7 : decode cX11_aim 7 = .ok (.isub, 1) := by decide +kernel
theorem dX11_aim_8 : decode cX11_aim 8 = .ok (.istore 5, 2) := by decide +kernel
theorem dX11_aim_10 : decode cX11_aim 10 = .ok (.iload_n 0, 1) := by decide +kernel
theorem dX11_aim_11 : decode cX11_aim 11 = .ok (.tableswitch 54 0 2 #[25, 27, 34], 25) := by decide +kernel
theorem dX11_aim_36 : decode cX11_aim 36 = .ok (.iload_n 1, 1) := by decide +kernel
theorem dX11_aim_37 : decode cX11_aim 37 = .ok (.ireturn, 1) := by decide +kernel
theorem dX11_aim_38 : decode cX11_aim 38 = .ok (.iload_n 1, 1) := by decide +kernel
theorem dX11_aim_39 : decode cX11_aim 39 = .ok (.iload 4, 2) := by decide +kernel
theorem dX11_aim_41 : decode cX11_aim 41 = .ok (.imul, 1) := by decide +kernel
theorem dX11_aim_42 : decode cX11_aim 42 = .ok (.iload_n 2, 1) := by decide +kernel
theorem dX11_aim_43 : decode cX11_aim 43 = .ok (.idiv, 1) := by decide +kernel
theorem dX11_aim_44 : decode cX11_aim 44 = .ok (.ireturn, 1) := by decide +kernel
theorem dX11_aim_45 : decode cX11_aim 45 = .ok (.iload_n 1, 1) := by decide +kernel
theorem dX11_aim_46 : decode cX11_aim 46 = .ok (.iconst 2, 1) := by decide +kernel
theorem dX11_aim_47 : decode cX11_aim 47 = .ok (.iload_n 1, 1) := by decide +kernel
theorem dX11_aim_48 : decode cX11_aim 48 = .ok (.imul, 1) := by decide +kernel
theorem dX11_aim_49 : decode cX11_aim 49 = .ok (.iload 4, 2) := by decide +kernel
theorem dX11_aim_51 : decode cX11_aim 51 = .ok (.iload 5, 2) := by decide +kernel
theorem dX11_aim_53 : decode cX11_aim 53 = .ok (.invokestatic 153, 3) := by decide +kernel
theorem dX11_aim_56 : decode cX11_aim 56 = .ok (.imul, 1) := by decide +kernel
theorem dX11_aim_57 : decode cX11_aim 57 = .ok (.iload_n 2, 1) := by decide +kernel
theorem dX11_aim_58 : decode cX11_aim 58 = .ok (.iconst 1, 1) := by decide +kernel
theorem dX11_aim_59 : decode cX11_aim 59 = .ok (.iadd, 1) := by decide +kernel
theorem dX11_aim_60 : decode cX11_aim 60 = .ok (.idiv, 1) := by decide +kernel
theorem dX11_aim_61 : decode cX11_aim 61 = .ok (.invokestatic 153, 3) := by decide +kernel
theorem dX11_aim_64 : decode cX11_aim 64 = .ok (.ireturn, 1) := by decide +kernel
theorem dX11_aim_65 : decode cX11_aim 65 = .ok (.iload_n 1, 1) := by decide +kernel
theorem dX11_aim_66 : decode cX11_aim 66 = .ok (.iload 4, 2) := by decide +kernel
theorem dX11_aim_68 : decode cX11_aim 68 = .ok (.iload 5, 2) := by decide +kernel
theorem dX11_aim_70 : decode cX11_aim 70 = .ok (.if_icmp .le 8, 3) := by decide +kernel
theorem dX11_aim_73 : decode cX11_aim 73 = .ok (.iload 4, 2) := by decide +kernel
theorem dX11_aim_75 : decode cX11_aim 75 = .ok (.goto 5, 3) := by decide +kernel
theorem dX11_aim_78 : decode cX11_aim 78 = .ok (.iload 5, 2) := by decide +kernel
theorem dX11_aim_80 : decode cX11_aim 80 = .ok (.imul, 1) := by decide +kernel
theorem dX11_aim_81 : decode cX11_aim 81 = .ok (.iload_n 2, 1) := by decide +kernel
theorem dX11_aim_82 : decode cX11_aim 82 = .ok (.idiv, 1) := by decide +kernel
theorem dX11_aim_83 : decode cX11_aim 83 = .ok (.ireturn, 1) := by decide +kernel
theorem dX11_far_0 : decode cX11_far 0 = .ok (.iconst (-1), 1) := by decide +kernel
theorem dX11_far_1 : decode cX11_far 1 = .ok (.istore_n 3, 1) := by decide +kernel
theorem dX11_far_2 : decode cX11_far 2 = .ok (.iconst 0, 1) := by decide +kernel
theorem dX11_far_3 : decode cX11_far 3 = .ok (.istore 4, 2) := by decide +kernel
theorem dX11_far_5 : decode cX11_far 5 = .ok (.iconst 0, 1) := by decide +kernel
theorem dX11_far_6 : decode cX11_far 6 = .ok (.istore 5, 2) := by decide +kernel
theorem dX11_far_8 : decode cX11_far 8 = .ok (.iconst 0, 1) := by decide +kernel
theorem dX11_far_9 : decode cX11_far 9 = .ok (.istore 6, 2) := by decide +kernel
theorem dX11_far_11 : decode cX11_far 11 = .ok (.iload 6, 2) := by decide +kernel
theorem dX11_far_13 : decode cX11_far 13 = .ok (.aload_n 0, 1) := by decide +kernel
theorem dX11_far_14 : decode cX11_far 14 = .ok (.getfield 150, 3) := by decide +kernel
theorem dX11_far_17 : decode cX11_far 17 = .ok (.if_icmp .ge 73, 3) := by decide +kernel
theorem dX11_far_20 : decode cX11_far 20 = .ok (.aload_n 0, 1) := by decide +kernel
theorem dX11_far_21 : decode cX11_far 21 = .ok (.getfield 46, 3) := by decide +kernel
theorem dX11_far_24 : decode cX11_far 24 = .ok (.aload_n 0, 1) := by decide +kernel
theorem dX11_far_25 : decode cX11_far 25 = .ok (.getfield 22, 3) := by decide +kernel
theorem dX11_far_28 : decode cX11_far 28 = .ok (.iload 6, 2) := by decide +kernel
theorem dX11_far_30 : decode cX11_far 30 = .ok (.iaload, 1) := by decide +kernel
theorem dX11_far_31 : decode cX11_far 31 = .ok (.iaload, 1) := by decide +kernel
theorem dX11_far_32 : decode cX11_far 32 = .ok (.iload_n 1, 1) := by decide +kernel
theorem dX11_far_33 : decode cX11_far 33 = .ok (.if_icmp .ne 51, 3) := by decide +kernel
theorem dX11_far_36 : decode cX11_far 36 = .ok (.iload_n 3, 1) := by decide +kernel
theorem dX11_far_37 : decode cX11_far 37 = .ok (.iconst (-1), 1) := by decide +kernel
theorem dX11_far_38 : decode cX11_far 38 = .ok (.if_icmp .ne 8, 3) := by decide +kernel
theorem dX11_far_41 : decode cX11_far 41 = .ok (.iload 6, 2) := by decide +kernel
theorem dX11_far_43 : decode cX11_far 43 = .ok (.goto 4, 3) := by decide +kernel
theorem dX11_far_46 : decode cX11_far 46 = .ok (.iload_n 3, 1) := by decide +kernel
theorem dX11_far_47 : decode cX11_far 47 = .ok (.istore_n 3, 1) := by decide +kernel
theorem dX11_far_48 : decode cX11_far 48 = .ok (.iinc 4 1, 3) := by decide +kernel
theorem dX11_far_51 : decode cX11_far 51 = .ok (.aload_n 0, 1) := by decide +kernel
theorem dX11_far_52 : decode cX11_far 52 = .ok (.getfield 28, 3) := by decide +kernel
theorem dX11_far_55 : decode cX11_far 55 = .ok (.iload 6, 2) := by decide +kernel
theorem dX11_far_57 : decode cX11_far 57 = .ok (.iaload, 1) := by decide +kernel
theorem dX11_far_58 : decode cX11_far 58 = .ok (.aload_n 0, 1) := by decide +kernel
theorem dX11_far_59 : decode cX11_far 59 = .ok (.getfield 31, 3) := by decide +kernel
theorem dX11_far_62 : decode cX11_far 62 = .ok (.iload 6, 2) := by decide +kernel
theorem dX11_far_64 : decode cX11_far 64 = .ok (.iaload, 1) := by decide +kernel
theorem dX11_far_65 : decode cX11_far 65 = .ok (.iadd, 1) := by decide +kernel
theorem dX11_far_66 : decode cX11_far 66 = .ok (.istore 7, 2) := by decide +kernel
theorem dX11_far_68 : decode cX11_far 68 = .ok (.iload 7, 2) := by decide +kernel
theorem dX11_far_70 : decode cX11_far 70 = .ok (.iload 5, 2) := by decide +kernel
theorem dX11_far_72 : decode cX11_far 72 = .ok (.if_icmp .le 8, 3) := by decide +kernel
theorem dX11_far_75 : decode cX11_far 75 = .ok (.iload 7, 2) := by decide +kernel
theorem dX11_far_77 : decode cX11_far 77 = .ok (.goto 5, 3) := by decide +kernel
theorem dX11_far_80 : decode cX11_far 80 = .ok (.iload 5, 2) := by decide +kernel
theorem dX11_far_82 : decode cX11_far 82 = .ok (.istore 5, 2) := by decide +kernel
theorem dX11_far_84 : decode cX11_far 84 = .ok (.iinc 6 1, 3) := by decide +kernel
theorem dX11_far_87 : decode cX11_far 87 = .ok (.goto (-76), 3) := by decide +kernel
theorem dX11_far_90 : decode cX11_far 90 = .ok (.iconst 0, 1) := by decide +kernel
theorem dX11_far_91 : decode cX11_far 91 = .ok (.istore 6, 2) := by decide +kernel
theorem dX11_far_93 : decode cX11_far 93 = .ok (.iconst 0, 1) := by decide +kernel
theorem dX11_far_94 : decode cX11_far 94 = .ok (.istore 7, 2) := by decide +kernel
theorem dX11_far_96 : decode cX11_far 96 = .ok (.iload 7, 2) := by decide +kernel
theorem dX11_far_98 : decode cX11_far 98 = .ok (.iload 4, 2) := by decide +kernel
theorem dX11_far_100 : decode cX11_far 100 = .ok (.if_icmp .ge 59, 3) := by decide +kernel
theorem dX11_far_103 : decode cX11_far 103 = .ok (.aload_n 0, 1) := by decide +kernel
theorem dX11_far_104 : decode cX11_far 104 = .ok (.getfield 28, 3) := by decide +kernel
theorem dX11_far_107 : decode cX11_far 107 = .ok (.iload_n 3, 1) := by decide +kernel
theorem dX11_far_108 : decode cX11_far 108 = .ok (.iload 7, 2) := by decide +kernel
theorem dX11_far_110 : decode cX11_far 110 = .ok (.iadd, 1) := by decide +kernel
theorem dX11_far_111 : decode cX11_far 111 = .ok (.iaload, 1) := by decide +kernel
theorem dX11_far_112 : decode cX11_far 112 = .ok (.aload_n 0, 1) := by decide +kernel
theorem dX11_far_113 : decode cX11_far 113 = .ok (.getfield 31, 3) := by decide +kernel
theorem dX11_far_116 : decode cX11_far 116 = .ok (.iload_n 3, 1) := by decide +kernel
theorem dX11_far_117 : decode cX11_far 117 = .ok (.iload 7, 2) := by decide +kernel
theorem dX11_far_119 : decode cX11_far 119 = .ok (.iadd, 1) := by decide +kernel
theorem dX11_far_120 : decode cX11_far 120 = .ok (.iaload, 1) := by decide +kernel
theorem dX11_far_121 : decode cX11_far 121 = .ok (.iadd, 1) := by decide +kernel
theorem dX11_far_122 : decode cX11_far 122 = .ok (.iload_n 2, 1) := by decide +kernel
theorem dX11_far_123 : decode cX11_far 123 = .ok (.iload 5, 2) := by decide +kernel
theorem dX11_far_125 : decode cX11_far 125 = .ok (.iload 4, 2) := by decide +kernel
theorem dX11_far_127 : decode cX11_far 127 = .ok (.iload 7, 2) := by decide +kernel
theorem dX11_far_129 : decode cX11_far 129 = .ok (.invokestatic 215, 3) := by decide +kernel
theorem dX11_far_132 : decode cX11_far 132 = .ok (.isub, 1) := by decide +kernel
theorem dX11_far_133 : decode cX11_far 133 = .ok (.istore 8, 2) := by decide +kernel
theorem dX11_far_135 : decode cX11_far 135 = .ok (.iload 6, 2) := by decide +kernel
theorem dX11_far_137 : decode cX11_far 137 = .ok (.iload 8, 2) := by decide +kernel
theorem dX11_far_139 : decode cX11_far 139 = .ok (.ifCond .ge 9, 3) := by decide +kernel
theorem dX11_far_142 : decode cX11_far 142 = .ok (.iload 8, 2) := by decide +kernel
theorem dX11_far_144 : decode cX11_far 144 = .ok (.ineg, 1) := by decide +kernel
theorem dX11_far_145 : decode cX11_far 145 = .ok (.goto 5, 3) := by decide +kernel
theorem dX11_far_148 : decode cX11_far 148 = .ok (.iload 8, 2) := by decide +kernel
theorem dX11_far_150 : decode cX11_far 150 = .ok (.iadd, 1) := by decide +kernel
theorem dX11_far_151 : decode cX11_far 151 = .ok (.istore 6, 2) := by decide +kernel
theorem dX11_far_153 : decode cX11_far 153 = .ok (.iinc 7 1, 3) := by decide +kernel
theorem dX11_far_156 : decode cX11_far 156 = .ok (.goto (-60), 3) := by decide +kernel
theorem dX11_far_159 : decode cX11_far 159 = .ok (.iload 6, 2) := by decide +kernel
theorem dX11_far_161 : decode cX11_far 161 = .ok (.ireturn, 1) := by decide +kernel
theorem dX11_nearest_0 : decode cX11_nearest 0 = .ok (.iconst 0, 1) := by decide +kernel
theorem dX11_nearest_1 : decode cX11_nearest 1 = .ok (.istore_n 2, 1) := by decide +kernel
theorem dX11_nearest_2 : decode cX11_nearest 2 = .ok (.iconst 1, 1) := by decide +kernel
theorem dX11_nearest_3 : decode cX11_nearest 3 = .ok (.istore_n 3, 1) := by decide +kernel
theorem dX11_nearest_4 : decode cX11_nearest 4 = .ok (.iload_n 3, 1) := by decide +kernel
theorem dX11_nearest_5 : decode cX11_nearest 5 = .ok (.iconst 4, 1) := by decide +kernel
theorem dX11_nearest_6 : decode cX11_nearest 6 = .ok (.if_icmp .ge 30, 3) := by decide +kernel
theorem dX11_nearest_9 : decode cX11_nearest 9 = .ok (.aload_n 0, 1) := by decide +kernel
theorem dX11_nearest_10 : decode cX11_nearest 10 = .ok (.iload_n 1, 1) := by decide +kernel
theorem dX11_nearest_11 : decode cX11_nearest 11 = .ok (.iload_n 3, 1) := by decide +kernel
theorem dX11_nearest_12 : decode cX11_nearest 12 = .ok (.invokevirtual 219, 3) := by decide +kernel
theorem dX11_nearest_15 : decode cX11_nearest 15 = .ok (.aload_n 0, 1) := by decide +kernel
theorem dX11_nearest_16 : decode cX11_nearest 16 = .ok (.iload_n 1, 1) := by decide +kernel
theorem dX11_nearest_17 : decode cX11_nearest 17 = .ok (.iload_n 2, 1) := by decide +kernel
theorem dX11_nearest_18 : decode cX11_nearest 18 = .ok (.invokevirtual 219, 3) := by decide +kernel
theorem dX11_nearest_21 : decode cX11_nearest 21 = .ok (.if_icmp .ge 7, 3) := by decide +kernel
theorem dX11_nearest_24 : decode cX11_nearest 24 = .ok (.iload_n 3, 1) := by decide +kernel
theorem dX11_nearest_25 : decode cX11_nearest 25 = .ok (.goto 4, 3) := by decide +kernel
theorem dX11_nearest_28 : decode cX11_nearest 28 = .ok (.iload_n 2, 1) := by decide +kernel
theorem dX11_nearest_29 : decode cX11_nearest 29 = .ok (.istore_n 2, 1) := by decide +kernel
theorem dX11_nearest_30 : decode cX11_nearest 30 = .ok (.iinc 3 1, 3) := by decide +kernel
theorem dX11_nearest_33 : decode cX11_nearest 33 = .ok (.goto (-29), 3) := by decide +kernel
theorem dX11_nearest_36 : decode cX11_nearest 36 = .ok (.iload_n 2, 1) := by decide +kernel
theorem dX11_nearest_37 : decode cX11_nearest 37 = .ok (.ireturn, 1) := by decide +kernel
theorem dX11_distance_0 : decode cX11_distance 0 = .ok (.iload_n 1, 1) := by decide +kernel
theorem dX11_distance_1 : decode cX11_distance 1 = .ok (.iconst 0, 1) := by decide +kernel
theorem dX11_distance_2 : decode cX11_distance 2 = .ok (.aload_n 0, 1) := by decide +kernel
theorem dX11_distance_3 : decode cX11_distance 3 = .ok (.invokevirtual 137, 3) := by decide +kernel
theorem dX11_distance_6 : decode cX11_distance 6 = .ok (.iconst 1, 1) := by decide +kernel
theorem dX11_distance_7 : decode cX11_distance 7 = .ok (.isub, 1) := by decide +kernel
theorem dX11_distance_8 : decode cX11_distance 8 = .ok (.invokestatic 62, 3) := by decide +kernel
theorem dX11_distance_11 : decode cX11_distance 11 = .ok (.ifCond .ne 6, 3) := by decide +kernel
theorem dX11_distance_14 : decode cX11_distance 14 = .ok (.bipush (-2), 2) := by decide +kernel
theorem dX11_distance_16 : decode cX11_distance 16 = .ok (.ireturn, 1) := by decide +kernel
theorem dX11_distance_17 : decode cX11_distance 17 = .ok (.aload_n 0, 1) := by decide +kernel
theorem dX11_distance_18 : decode cX11_distance 18 = .ok (.invokevirtual 110, 3) := by decide +kernel
theorem dX11_distance_21 : decode cX11_distance 21 = .ok (.aload_n 0, 1) := by decide +kernel
theorem dX11_distance_22 : decode cX11_distance 22 = .ok (.getfield 83, 3) := by decide +kernel
theorem dX11_distance_25 : decode cX11_distance 25 = .ok (.iconst (-1), 1) := by decide +kernel
theorem dX11_distance_26 : decode cX11_distance 26 = .ok (.if_icmp .eq 12, 3) := by decide +kernel
theorem dX11_distance_29 : decode cX11_distance 29 = .ok (.sipush (-2000), 3) := by decide +kernel
theorem dX11_distance_32 : decode cX11_distance 32 = .ok (.aload_n 0, 1) := by decide +kernel
theorem dX11_distance_33 : decode cX11_distance 33 = .ok (.getfield 83, 3) := by decide +kernel
theorem dX11_distance_36 : decode cX11_distance 36 = .ok (.isub, 1) := by decide +kernel
theorem dX11_distance_37 : decode cX11_distance 37 = .ok (.ireturn, 1) := by decide +kernel
theorem dX11_distance_38 : decode cX11_distance 38 = .ok (.aload_n 0, 1) := by decide +kernel
theorem dX11_distance_39 : decode cX11_distance 39 = .ok (.invokevirtual 188, 3) := by decide +kernel
theorem dX11_distance_42 : decode cX11_distance 42 = .ok (.aload_n 0, 1) := by decide +kernel
theorem dX11_distance_43 : decode cX11_distance 43 = .ok (.iload_n 1, 1) := by decide +kernel
theorem dX11_distance_44 : decode cX11_distance 44 = .ok (.aload_n 0, 1) := by decide +kernel
theorem dX11_distance_45 : decode cX11_distance 45 = .ok (.getfield 107, 3) := by decide +kernel
theorem dX11_distance_48 : decode cX11_distance 48 = .ok (.invokevirtual 219, 3) := by decide +kernel
theorem dX11_distance_51 : decode cX11_distance 51 = .ok (.ireturn, 1) := by decide +kernel
theorem dX11_shape_0 : decode cX11_shape 0 = .ok (.iload_n 1, 1) := by decide +kernel
theorem dX11_shape_1 : decode cX11_shape 1 = .ok (.iconst 0, 1) := by decide +kernel
theorem dX11_shape_2 : decode cX11_shape 2 = .ok (.aload_n 0, 1) := by decide +kernel
theorem dX11_shape_3 : decode cX11_shape 3 = .ok (.invokevirtual 137, 3) := by decide +kernel
theorem dX11_shape_6 : decode cX11_shape 6 = .ok (.iconst 1, 1) := by decide +kernel
theorem dX11_shape_7 : decode cX11_shape 7 = .ok (.isub, 1) := by decide +kernel
theorem dX11_shape_8 : decode cX11_shape 8 = .ok (.invokestatic 62, 3) := by decide +kernel
theorem dX11_shape_11 : decode cX11_shape 11 = .ok (.ifCond .ne 6, 3) := by decide +kernel
theorem dX11_shape_14 : decode cX11_shape 14 = .ok (.bipush (-2), 2) := by decide +kernel
theorem dX11_shape_16 : decode cX11_shape 16 = .ok (.ireturn, 1) := by decide +kernel
theorem dX11_shape_17 : decode cX11_shape 17 = .ok (.aload_n 0, 1) := by decide +kernel
theorem dX11_shape_18 : decode cX11_shape 18 = .ok (.invokevirtual 188, 3) := by decide +kernel
theorem dX11_shape_21 : decode cX11_shape 21 = .ok (.aload_n 0, 1) := by decide +kernel
theorem dX11_shape_22 : decode cX11_shape 22 = .ok (.iload_n 1, 1) := by decide +kernel
theorem dX11_shape_23 : decode cX11_shape 23 = .ok (.invokevirtual 222, 3) := by decide +kernel
theorem dX11_shape_26 : decode cX11_shape 26 = .ok (.ireturn, 1) := by decide +kernel
theorem dX11_overRows_0 : decode cX11_overRows 0 = .ok (.aload_n 0, 1) := by decide +kernel
theorem dX11_overRows_1 : decode cX11_overRows 1 = .ok (.getfield 150, 3) := by decide +kernel
theorem dX11_overRows_4 : decode cX11_overRows 4 = .ok (.aload_n 0, 1) := by decide +kernel
theorem dX11_overRows_5 : decode cX11_overRows 5 = .ok (.getfield 7, 3) := by decide +kernel
theorem dX11_overRows_8 : decode cX11_overRows 8 = .ok (.sipush 2040, 3) := by decide +kernel
theorem dX11_overRows_11 : decode cX11_overRows 11 = .ok (.iaload, 1) := by decide +kernel
theorem dX11_overRows_12 : decode cX11_overRows 12 = .ok (.isub, 1) := by decide +kernel
theorem dX11_overRows_13 : decode cX11_overRows 13 = .ok (.ireturn, 1) := by decide +kernel
theorem dX11_withinRows_0 : decode cX11_withinRows 0 = .ok (.iconst 0, 1) := by decide +kernel
theorem dX11_withinRows_1 : decode cX11_withinRows 1 = .ok (.istore_n 1, 1) := by decide +kernel
theorem dX11_withinRows_2 : decode cX11_withinRows 2 = .ok (.iconst 0, 1) := by decide +kernel
theorem dX11_withinRows_3 : decode cX11_withinRows 3 = .ok (.istore_n 2, 1) := by decide +kernel
theorem dX11_withinRows_4 : decode cX11_withinRows 4 = .ok (.iload_n 2, 1) := by decide +kernel
theorem dX11_withinRows_5 : decode cX11_withinRows 5 = .ok (.aload_n 0, 1) := by decide +kernel
theorem dX11_withinRows_6 : decode cX11_withinRows 6 = .ok (.getfield 150, 3) := by decide +kernel
theorem dX11_withinRows_9 : decode cX11_withinRows 9 = .ok (.if_icmp .ge 18, 3) := by decide +kernel
theorem dX11_withinRows_12 : decode cX11_withinRows 12 = .ok (.iload_n 1, 1) := by decide +kernel
theorem dX11_withinRows_13 : decode cX11_withinRows 13 = .ok (.aload_n 0, 1) := by decide +kernel
theorem dX11_withinRows_14 : decode cX11_withinRows 14 = .ok (.getfield 34, 3) := by decide +kernel
theorem dX11_withinRows_17 : decode cX11_withinRows 17 = .ok (.iload_n 2, 1) := by decide +kernel
theorem dX11_withinRows_18 : decode cX11_withinRows 18 = .ok (.iaload, 1) := by decide +kernel
theorem dX11_withinRows_19 : decode cX11_withinRows 19 = .ok (.iadd, 1) := by decide +kernel
theorem dX11_withinRows_20 : decode cX11_withinRows 20 = .ok (.istore_n 1, 1) := by decide +kernel
theorem dX11_withinRows_21 : decode cX11_withinRows 21 = .ok (.iinc 2 1, 3) := by decide +kernel
theorem dX11_withinRows_24 : decode cX11_withinRows 24 = .ok (.goto (-20), 3) := by decide +kernel
theorem dX11_withinRows_27 : decode cX11_withinRows 27 = .ok (.iload_n 1, 1) := by decide +kernel
theorem dX11_withinRows_28 : decode cX11_withinRows 28 = .ok (.ireturn, 1) := by decide +kernel
theorem dX11_bestWidth_0 : decode cX11_bestWidth 0 = .ok (.iload_n 1, 1) := by decide +kernel
theorem dX11_bestWidth_1 : decode cX11_bestWidth 1 = .ok (.iconst 0, 1) := by decide +kernel
theorem dX11_bestWidth_2 : decode cX11_bestWidth 2 = .ok (.iconst 2, 1) := by decide +kernel
theorem dX11_bestWidth_3 : decode cX11_bestWidth 3 = .ok (.invokestatic 62, 3) := by decide +kernel
theorem dX11_bestWidth_6 : decode cX11_bestWidth 6 = .ok (.ifCond .ne 6, 3) := by decide +kernel
theorem dX11_bestWidth_9 : decode cX11_bestWidth 9 = .ok (.bipush (-2), 2) := by decide +kernel
theorem dX11_bestWidth_11 : decode cX11_bestWidth 11 = .ok (.ireturn, 1) := by decide +kernel
theorem dX11_bestWidth_12 : decode cX11_bestWidth 12 = .ok (.aload_n 0, 1) := by decide +kernel
theorem dX11_bestWidth_13 : decode cX11_bestWidth 13 = .ok (.getfield 7, 3) := by decide +kernel
theorem dX11_bestWidth_16 : decode cX11_bestWidth 16 = .ok (.sipush 2040, 3) := by decide +kernel
theorem dX11_bestWidth_19 : decode cX11_bestWidth 19 = .ok (.iaload, 1) := by decide +kernel
theorem dX11_bestWidth_20 : decode cX11_bestWidth 20 = .ok (.ifCond .ne 6, 3) := by decide +kernel
theorem dX11_bestWidth_23 : decode cX11_bestWidth 23 = .ok (.bipush (-3), 2) := by decide +kernel
theorem dX11_bestWidth_25 : decode cX11_bestWidth 25 = .ok (.ireturn, 1) := by decide +kernel
theorem dX11_bestWidth_26 : decode cX11_bestWidth 26 = .ok (.aload_n 0, 1) := by decide +kernel
theorem dX11_bestWidth_27 : decode cX11_bestWidth 27 = .ok (.getfield 7, 3) := by decide +kernel
theorem dX11_bestWidth_30 : decode cX11_bestWidth 30 = .ok (.sipush 2041, 3) := by decide +kernel
theorem dX11_bestWidth_33 : decode cX11_bestWidth 33 = .ok (.iaload, 1) := by decide +kernel
theorem dX11_bestWidth_34 : decode cX11_bestWidth 34 = .ok (.istore_n 2, 1) := by decide +kernel
theorem dX11_bestWidth_35 : decode cX11_bestWidth 35 = .ok (.iconst (-1), 1) := by decide +kernel
theorem dX11_bestWidth_36 : decode cX11_bestWidth 36 = .ok (.istore_n 3, 1) := by decide +kernel
theorem dX11_bestWidth_37 : decode cX11_bestWidth 37 = .ok (.iconst 0, 1) := by decide +kernel
theorem dX11_bestWidth_38 : decode cX11_bestWidth 38 = .ok (.istore 4, 2) := by decide +kernel
theorem dX11_bestWidth_40 : decode cX11_bestWidth 40 = .ok (.bipush 12, 2) := by decide +kernel
theorem dX11_bestWidth_42 : decode cX11_bestWidth 42 = .ok (.istore 5, 2) := by decide +kernel
theorem dX11_bestWidth_44 : decode cX11_bestWidth 44 = .ok (.iload 5, 2) := by decide +kernel
theorem dX11_bestWidth_46 : decode cX11_bestWidth 46 = .ok (.bipush 60, 2) := by decide +kernel
theorem dX11_bestWidth_48 : decode cX11_bestWidth 48 = .ok (.if_icmp .gt 97, 3) := by decide +kernel
theorem dX11_bestWidth_51 : decode cX11_bestWidth 51 = .ok (.aload_n 0, 1) := by decide +kernel
theorem dX11_bestWidth_52 : decode cX11_bestWidth 52 = .ok (.getfield 7, 3) := by decide +kernel
theorem dX11_bestWidth_55 : decode cX11_bestWidth 55 = .ok (.sipush 2041, 3) := by decide +kernel
theorem dX11_bestWidth_58 : decode cX11_bestWidth 58 = .ok (.iload 5, 2) := by decide +kernel
theorem dX11_bestWidth_60 : decode cX11_bestWidth 60 = .ok (.iastore, 1) := by decide +kernel
theorem dX11_bestWidth_61 : decode cX11_bestWidth 61 = .ok (.aload_n 0, 1) := by decide +kernel
theorem dX11_bestWidth_62 : decode cX11_bestWidth 62 = .ok (.invokevirtual 188, 3) := by decide +kernel
theorem dX11_bestWidth_65 : decode cX11_bestWidth 65 = .ok (.iload_n 1, 1) := by decide +kernel
theorem dX11_bestWidth_66 : decode cX11_bestWidth 66 = .ok (.ifCond .ne 10, 3) := by decide +kernel
theorem dX11_bestWidth_69 : decode cX11_bestWidth 69 = .ok (.aload_n 0, 1) := by decide +kernel
theorem dX11_bestWidth_70 : decode cX11_bestWidth 70 = .ok (.invokevirtual 200, 3) := by decide +kernel
theorem dX11_bestWidth_73 : decode cX11_bestWidth 73 = .ok (.goto 19, 3) := by decide +kernel
theorem dX11_bestWidth_76 : decode cX11_bestWidth 76 = .ok (.iload_n 1, 1) := by decide +kernel
theorem dX11_bestWidth_77 : decode cX11_bestWidth 77 = .ok (.iconst 1, 1) := by decide +kernel
theorem dX11_bestWidth_78 : decode cX11_bestWidth 78 = .ok (.if_icmp .ne 10, 3) := by decide +kernel
theorem dX11_bestWidth_81 : decode cX11_bestWidth 81 = .ok (.aload_n 0, 1) := by decide +kernel
theorem dX11_bestWidth_82 : decode cX11_bestWidth 82 = .ok (.invokevirtual 225, 3) := by decide +kernel
theorem dX11_bestWidth_85 : decode cX11_bestWidth 85 = .ok (.goto 7, 3) := by decide +kernel
theorem dX11_bestWidth_88 : decode cX11_bestWidth 88 = .ok (.aload_n 0, 1) := by decide +kernel
theorem dX11_bestWidth_89 : decode cX11_bestWidth 89 = .ok (.invokevirtual 228, 3) := by decide +kernel
theorem dX11_bestWidth_92 : decode cX11_bestWidth 92 = .ok (.istore 6, 2) := by decide +kernel
theorem dX11_bestWidth_94 : decode cX11_bestWidth 94 = .ok (.iload_n 3, 1) := by decide +kernel
theorem dX11_bestWidth_95 : decode cX11_bestWidth 95 = .ok (.iconst (-1), 1) := by decide +kernel
theorem dX11_bestWidth_96 : decode cX11_bestWidth 96 = .ok (.if_icmp .eq 10, 3) := by decide +kernel
theorem dX11_bestWidth_99 : decode cX11_bestWidth 99 = .ok (.iload 6, 2) := by decide +kernel
theorem dX11_bestWidth_101 : decode cX11_bestWidth 101 = .ok (.iload 4, 2) := by decide +kernel
theorem dX11_bestWidth_103 : decode cX11_bestWidth 103 = .ok (.if_icmp .ge 7, 3) := by decide +kernel
theorem dX11_bestWidth_106 : decode cX11_bestWidth 106 = .ok (.iconst 1, 1) := by decide +kernel
theorem dX11_bestWidth_107 : decode cX11_bestWidth 107 = .ok (.goto 4, 3) := by decide +kernel
theorem dX11_bestWidth_110 : decode cX11_bestWidth 110 = .ok (.iconst 0, 1) := by decide +kernel
theorem dX11_bestWidth_111 : decode cX11_bestWidth 111 = .ok (.istore 7, 2) := by decide +kernel
theorem dX11_bestWidth_113 : decode cX11_bestWidth 113 = .ok (.iload 7, 2) := by decide +kernel
theorem dX11_bestWidth_115 : decode cX11_bestWidth 115 = .ok (.ifCond .eq 8, 3) := by decide +kernel
theorem dX11_bestWidth_118 : decode cX11_bestWidth 118 = .ok (.iload 5, 2) := by decide +kernel
theorem dX11_bestWidth_120 : decode cX11_bestWidth 120 = .ok (.goto 4, 3) := by decide +kernel
theorem dX11_bestWidth_123 : decode cX11_bestWidth 123 = .ok (.iload_n 3, 1) := by decide +kernel
theorem dX11_bestWidth_124 : decode cX11_bestWidth 124 = .ok (.istore_n 3, 1) := by decide +kernel
theorem dX11_bestWidth_125 : decode cX11_bestWidth 125 = .ok (.iload 7, 2) := by decide +kernel
theorem dX11_bestWidth_127 : decode cX11_bestWidth 127 = .ok (.ifCond .eq 8, 3) := by decide +kernel
theorem dX11_bestWidth_130 : decode cX11_bestWidth 130 = .ok (.iload 6, 2) := by decide +kernel
theorem dX11_bestWidth_132 : decode cX11_bestWidth 132 = .ok (.goto 5, 3) := by decide +kernel
theorem dX11_bestWidth_135 : decode cX11_bestWidth 135 = .ok (.iload 4, 2) := by decide +kernel
theorem dX11_bestWidth_137 : decode cX11_bestWidth 137 = .ok (.istore 4, 2) := by decide +kernel
theorem dX11_bestWidth_139 : decode cX11_bestWidth 139 = .ok (.iinc 5 1, 3) := by decide +kernel
theorem dX11_bestWidth_142 : decode cX11_bestWidth 142 = .ok (.goto (-98), 3) := by decide +kernel
theorem dX11_bestWidth_145 : decode cX11_bestWidth 145 = .ok (.aload_n 0, 1) := by decide +kernel
theorem dX11_bestWidth_146 : decode cX11_bestWidth 146 = .ok (.getfield 7, 3) := by decide +kernel
theorem dX11_bestWidth_149 : decode cX11_bestWidth 149 = .ok (.sipush 2041, 3) := by decide +kernel
theorem dX11_bestWidth_152 : decode cX11_bestWidth 152 = .ok (.iload_n 2, 1) := by decide +kernel
theorem dX11_bestWidth_153 : decode cX11_bestWidth 153 = .ok (.iastore, 1) := by decide +kernel
theorem dX11_bestWidth_154 : decode cX11_bestWidth 154 = .ok (.iload_n 3, 1) := by decide +kernel
theorem dX11_bestWidth_155 : decode cX11_bestWidth 155 = .ok (.ireturn, 1) := by decide +kernel
theorem dX11_leastHeight_0 : decode cX11_leastHeight 0 = .ok (.iload_n 1, 1) := by decide +kernel
theorem dX11_leastHeight_1 : decode cX11_leastHeight 1 = .ok (.iconst 1, 1) := by decide +kernel
theorem dX11_leastHeight_2 : decode cX11_leastHeight 2 = .ok (.bipush 99, 2) := by decide +kernel
theorem dX11_leastHeight_4 : decode cX11_leastHeight 4 = .ok (.invokestatic 62, 3) := by decide +kernel
theorem dX11_leastHeight_7 : decode cX11_leastHeight 7 = .ok (.ifCond .ne 6, 3) := by decide +kernel
theorem dX11_leastHeight_10 : decode cX11_leastHeight 10 = .ok (.bipush (-2), 2) := by decide +kernel
theorem dX11_leastHeight_12 : decode cX11_leastHeight 12 = .ok (.ireturn, 1) := by decide +kernel
theorem dX11_leastHeight_13 : decode cX11_leastHeight 13 = .ok (.aload_n 0, 1) := by decide +kernel
theorem dX11_leastHeight_14 : decode cX11_leastHeight 14 = .ok (.getfield 7, 3) := by decide +kernel
theorem dX11_leastHeight_17 : decode cX11_leastHeight 17 = .ok (.sipush 2042, 3) := by decide +kernel
theorem dX11_leastHeight_20 : decode cX11_leastHeight 20 = .ok (.iaload, 1) := by decide +kernel
theorem dX11_leastHeight_21 : decode cX11_leastHeight 21 = .ok (.istore_n 2, 1) := by decide +kernel
theorem dX11_leastHeight_22 : decode cX11_leastHeight 22 = .ok (.iconst (-1), 1) := by decide +kernel
theorem dX11_leastHeight_23 : decode cX11_leastHeight 23 = .ok (.istore_n 3, 1) := by decide +kernel
theorem dX11_leastHeight_24 : decode cX11_leastHeight 24 = .ok (.bipush 30, 2) := by decide +kernel
theorem dX11_leastHeight_26 : decode cX11_leastHeight 26 = .ok (.istore 4, 2) := by decide +kernel
theorem dX11_leastHeight_28 : decode cX11_leastHeight 28 = .ok (.iload 4, 2) := by decide +kernel
theorem dX11_leastHeight_30 : decode cX11_leastHeight 30 = .ok (.iconst 4, 1) := by decide +kernel
theorem dX11_leastHeight_31 : decode cX11_leastHeight 31 = .ok (.if_icmp .lt 38, 3) := by decide +kernel
theorem dX11_leastHeight_34 : decode cX11_leastHeight 34 = .ok (.aload_n 0, 1) := by decide +kernel
theorem dX11_leastHeight_35 : decode cX11_leastHeight 35 = .ok (.getfield 7, 3) := by decide +kernel
theorem dX11_leastHeight_38 : decode cX11_leastHeight 38 = .ok (.sipush 2042, 3) := by decide +kernel
theorem dX11_leastHeight_41 : decode cX11_leastHeight 41 = .ok (.iload 4, 2) := by decide +kernel
theorem dX11_leastHeight_43 : decode cX11_leastHeight 43 = .ok (.iastore, 1) := by decide +kernel
theorem dX11_leastHeight_44 : decode cX11_leastHeight 44 = .ok (.aload_n 0, 1) := by decide +kernel
theorem dX11_leastHeight_45 : decode cX11_leastHeight 45 = .ok (.invokevirtual 188, 3) := by decide +kernel
theorem dX11_leastHeight_48 : decode cX11_leastHeight 48 = .ok (.aload_n 0, 1) := by decide +kernel
theorem dX11_leastHeight_49 : decode cX11_leastHeight 49 = .ok (.invokevirtual 200, 3) := by decide +kernel
theorem dX11_leastHeight_52 : decode cX11_leastHeight 52 = .ok (.iload_n 1, 1) := by decide +kernel
theorem dX11_leastHeight_53 : decode cX11_leastHeight 53 = .ok (.if_icmp .gt 8, 3) := by decide +kernel
theorem dX11_leastHeight_56 : decode cX11_leastHeight 56 = .ok (.iload 4, 2) := by decide +kernel
theorem dX11_leastHeight_58 : decode cX11_leastHeight 58 = .ok (.goto 4, 3) := by decide +kernel
theorem dX11_leastHeight_61 : decode cX11_leastHeight 61 = .ok (.iload_n 3, 1) := by decide +kernel
theorem dX11_leastHeight_62 : decode cX11_leastHeight 62 = .ok (.istore_n 3, 1) := by decide +kernel
theorem dX11_leastHeight_63 : decode cX11_leastHeight 63 = .ok (.iinc 4 (-1), 3) := by decide +kernel
theorem dX11_leastHeight_66 : decode cX11_leastHeight 66 = .ok (.goto (-38), 3) := by decide +kernel
theorem dX11_leastHeight_69 : decode cX11_leastHeight 69 = .ok (.aload_n 0, 1) := by decide +kernel
theorem dX11_leastHeight_70 : decode cX11_leastHeight 70 = .ok (.getfield 7, 3) := by decide +kernel
theorem dX11_leastHeight_73 : decode cX11_leastHeight 73 = .ok (.sipush 2042, 3) := by decide +kernel
theorem dX11_leastHeight_76 : decode cX11_leastHeight 76 = .ok (.iload_n 2, 1) := by decide +kernel
theorem dX11_leastHeight_77 : decode cX11_leastHeight 77 = .ok (.iastore, 1) := by decide +kernel
theorem dX11_leastHeight_78 : decode cX11_leastHeight 78 = .ok (.iload_n 3, 1) := by decide +kernel
theorem dX11_leastHeight_79 : decode cX11_leastHeight 79 = .ok (.ireturn, 1) := by decide +kernel
theorem dX11_marked_0 : decode cX11_marked 0 = .ok (.iconst 0, 1) := by decide +kernel
theorem dX11_marked_1 : decode cX11_marked 1 = .ok (.istore_n 1, 1) := by decide +kernel
theorem dX11_marked_2 : decode cX11_marked 2 = .ok (.iconst 0, 1) := by decide +kernel
theorem dX11_marked_3 : decode cX11_marked 3 = .ok (.istore_n 2, 1) := by decide +kernel
theorem dX11_marked_4 : decode cX11_marked 4 = .ok (.iload_n 2, 1) := by decide +kernel
theorem dX11_marked_5 : decode cX11_marked 5 = .ok (.aload_n 0, 1) := by decide +kernel
theorem dX11_marked_6 : decode cX11_marked 6 = .ok (.invokevirtual 200, 3) := by decide +kernel
theorem dX11_marked_9 : decode cX11_marked 9 = .ok (.if_icmp .ge 25, 3) := by decide +kernel
theorem dX11_marked_12 : decode cX11_marked 12 = .ok (.iload_n 1, 1) := by decide +kernel
theorem dX11_marked_13 : decode cX11_marked 13 = .ok (.aload_n 0, 1) := by decide +kernel
theorem dX11_marked_14 : decode cX11_marked 14 = .ok (.iload_n 2, 1) := by decide +kernel
theorem dX11_marked_15 : decode cX11_marked 15 = .ok (.invokevirtual 209, 3) := by decide +kernel
theorem dX11_marked_18 : decode cX11_marked 18 = .ok (.ifCond .eq 7, 3) := by decide +kernel
theorem dX11_marked_21 : decode cX11_marked 21 = .ok (.iconst 1, 1) := by decide +kernel
theorem dX11_marked_22 : decode cX11_marked 22 = .ok (.goto 4, 3) := by decide +kernel
theorem dX11_marked_25 : decode cX11_marked 25 = .ok (.iconst 0, 1) := by decide +kernel
theorem dX11_marked_26 : decode cX11_marked 26 = .ok (.iadd, 1) := by decide +kernel
theorem dX11_marked_27 : decode cX11_marked 27 = .ok (.istore_n 1, 1) := by decide +kernel
theorem dX11_marked_28 : decode cX11_marked 28 = .ok (.iinc 2 1, 3) := by decide +kernel
theorem dX11_marked_31 : decode cX11_marked 31 = .ok (.goto (-27), 3) := by decide +kernel
theorem dX11_marked_34 : decode cX11_marked 34 = .ok (.iload_n 1, 1) := by decide +kernel
theorem dX11_marked_35 : decode cX11_marked 35 = .ok (.ireturn, 1) := by decide +kernel
theorem dX11_widest_0 : decode cX11_widest 0 = .ok (.iconst 0, 1) := by decide +kernel
theorem dX11_widest_1 : decode cX11_widest 1 = .ok (.istore_n 1, 1) := by decide +kernel
theorem dX11_widest_2 : decode cX11_widest 2 = .ok (.iconst 0, 1) := by decide +kernel
theorem dX11_widest_3 : decode cX11_widest 3 = .ok (.istore_n 2, 1) := by decide +kernel
theorem dX11_widest_4 : decode cX11_widest 4 = .ok (.iload_n 2, 1) := by decide +kernel
theorem dX11_widest_5 : decode cX11_widest 5 = .ok (.aload_n 0, 1) := by decide +kernel
theorem dX11_widest_6 : decode cX11_widest 6 = .ok (.getfield 150, 3) := by decide +kernel
theorem dX11_widest_9 : decode cX11_widest 9 = .ok (.if_icmp .ge 34, 3) := by decide +kernel
theorem dX11_widest_12 : decode cX11_widest 12 = .ok (.aload_n 0, 1) := by decide +kernel
theorem dX11_widest_13 : decode cX11_widest 13 = .ok (.getfield 28, 3) := by decide +kernel
theorem dX11_widest_16 : decode cX11_widest 16 = .ok (.iload_n 2, 1) := by decide +kernel
theorem dX11_widest_17 : decode cX11_widest 17 = .ok (.iaload, 1) := by decide +kernel
theorem dX11_widest_18 : decode cX11_widest 18 = .ok (.aload_n 0, 1) := by decide +kernel
theorem dX11_widest_19 : decode cX11_widest 19 = .ok (.getfield 31, 3) := by decide +kernel
theorem dX11_widest_22 : decode cX11_widest 22 = .ok (.iload_n 2, 1) := by decide +kernel
theorem dX11_widest_23 : decode cX11_widest 23 = .ok (.iaload, 1) := by decide +kernel
theorem dX11_widest_24 : decode cX11_widest 24 = .ok (.iadd, 1) := by decide +kernel
theorem dX11_widest_25 : decode cX11_widest 25 = .ok (.istore_n 3, 1) := by decide +kernel
theorem dX11_widest_26 : decode cX11_widest 26 = .ok (.iload_n 3, 1) := by decide +kernel
theorem dX11_widest_27 : decode cX11_widest 27 = .ok (.iload_n 1, 1) := by decide +kernel
theorem dX11_widest_28 : decode cX11_widest 28 = .ok (.if_icmp .le 7, 3) := by decide +kernel
theorem dX11_widest_31 : decode cX11_widest 31 = .ok (.iload_n 3, 1) := by decide +kernel
theorem dX11_widest_32 : decode cX11_widest 32 = .ok (.goto 4, 3) := by decide +kernel
theorem dX11_widest_35 : decode cX11_widest 35 = .ok (.iload_n 1, 1) := by decide +kernel
theorem dX11_widest_36 : decode cX11_widest 36 = .ok (.istore_n 1, 1) := by decide +kernel
theorem dX11_widest_37 : decode cX11_widest 37 = .ok (.iinc 2 1, 3) := by decide +kernel
theorem dX11_widest_40 : decode cX11_widest 40 = .ok (.goto (-36), 3) := by decide +kernel
theorem dX11_widest_43 : decode cX11_widest 43 = .ok (.iload_n 1, 1) := by decide +kernel
theorem dX11_widest_44 : decode cX11_widest 44 = .ok (.ireturn, 1) := by decide +kernel
theorem dX11_number_0 : decode cX11_number 0 = .ok (.iload_n 1, 1) := by decide +kernel
theorem dX11_number_1 : decode cX11_number 1 = .ok (.tableswitch 128 0 10 #[59, 68, 73, 78, 83, 88, 93, 98, 113, 118, 123], 59) := by decide +kernel
theorem dX11_number_60 : decode cX11_number 60 = .ok (.aload_n 0, 1) := by decide +kernel
theorem dX11_number_61 : decode cX11_number 61 = .ok (.getfield 7, 3) := by decide +kernel
theorem dX11_number_64 : decode cX11_number 64 = .ok (.sipush 2040, 3) := by decide +kernel
theorem dX11_number_67 : decode cX11_number 67 = .ok (.iaload, 1) := by decide +kernel
theorem dX11_number_68 : decode cX11_number 68 = .ok (.ireturn, 1) := by decide +kernel
theorem dX11_number_69 : decode cX11_number 69 = .ok (.aload_n 0, 1) := by decide +kernel
theorem dX11_number_70 : decode cX11_number 70 = .ok (.invokevirtual 137, 3) := by decide +kernel
theorem dX11_number_73 : decode cX11_number 73 = .ok (.ireturn, 1) := by decide +kernel
theorem dX11_number_74 : decode cX11_number 74 = .ok (.aload_n 0, 1) := by decide +kernel
theorem dX11_number_75 : decode cX11_number 75 = .ok (.getfield 150, 3) := by decide +kernel
theorem dX11_number_78 : decode cX11_number 78 = .ok (.ireturn, 1) := by decide +kernel
theorem dX11_number_79 : decode cX11_number 79 = .ok (.aload_n 0, 1) := by decide +kernel
theorem dX11_number_80 : decode cX11_number 80 = .ok (.invokevirtual 200, 3) := by decide +kernel
theorem dX11_number_83 : decode cX11_number 83 = .ok (.ireturn, 1) := by decide +kernel
theorem dX11_number_84 : decode cX11_number 84 = .ok (.aload_n 0, 1) := by decide +kernel
theorem dX11_number_85 : decode cX11_number 85 = .ok (.invokevirtual 225, 3) := by decide +kernel
theorem dX11_number_88 : decode cX11_number 88 = .ok (.ireturn, 1) := by decide +kernel
theorem dX11_number_89 : decode cX11_number 89 = .ok (.aload_n 0, 1) := by decide +kernel
theorem dX11_number_90 : decode cX11_number 90 = .ok (.invokevirtual 228, 3) := by decide +kernel
theorem dX11_number_93 : decode cX11_number 93 = .ok (.ireturn, 1) := by decide +kernel
theorem dX11_number_94 : decode cX11_number 94 = .ok (.aload_n 0, 1) := by decide +kernel
theorem dX11_number_95 : decode cX11_number 95 = .ok (.invokevirtual 231, 3) := by decide +kernel
theorem dX11_number_98 : decode cX11_number 98 = .ok (.ireturn, 1) := by decide +kernel
theorem dX11_number_99 : decode cX11_number 99 = .ok (.aload_n 0, 1) := by decide +kernel
theorem dX11_number_100 : decode cX11_number 100 = .ok (.aload_n 0, 1) := by decide +kernel
theorem dX11_number_101 : decode cX11_number 101 = .ok (.getfield 7, 3) := by decide +kernel
theorem dX11_number_104 : decode cX11_number 104 = .ok (.sipush 2040, 3) := by decide +kernel
theorem dX11_number_107 : decode cX11_number 107 = .ok (.iaload, 1) := by decide +kernel
theorem dX11_number_108 : decode cX11_number 108 = .ok (.iconst 1, 1) := by decide +kernel
theorem dX11_number_109 : decode cX11_number 109 = .ok (.isub, 1) := by decide +kernel
theorem dX11_number_110 : decode cX11_number 110 = .ok (.invokevirtual 185, 3) := by decide +kernel
theorem dX11_number_113 : decode cX11_number 113 = .ok (.ireturn, 1) := by decide +kernel
theorem dX11_number_114 : decode cX11_number 114 = .ok (.aload_n 0, 1) := by decide +kernel
theorem dX11_number_115 : decode cX11_number 115 = .ok (.invokevirtual 234, 3) := by decide +kernel
theorem dX11_number_118 : decode cX11_number 118 = .ok (.ireturn, 1) := by decide +kernel
theorem dX11_number_119 : decode cX11_number 119 = .ok (.aload_n 0, 1) := by decide +kernel
theorem dX11_number_120 : decode cX11_number 120 = .ok (.getfield 58, 3) := by decide +kernel
theorem dX11_number_123 : decode cX11_number 123 = .ok (.ireturn, 1) := by decide +kernel
theorem dX11_number_124 : decode cX11_number 124 = .ok (.aload_n 0, 1) := by decide +kernel
theorem dX11_number_125 : decode cX11_number 125 = .ok (.getfield 66, 3) := by decide +kernel
theorem dX11_number_128 : decode cX11_number 128 = .ok (.ireturn, 1) := by decide +kernel
theorem dX11_number_129 : decode cX11_number 129 = .ok (.aload_n 0, 1) := by decide +kernel
theorem dX11_number_130 : decode cX11_number 130 = .ok (.getfield 7, 3) := by decide +kernel
theorem dX11_number_133 : decode cX11_number 133 = .ok (.sipush 2041, 3) := by decide +kernel
theorem dX11_number_136 : decode cX11_number 136 = .ok (.iload_n 1, 1) := by decide +kernel
theorem dX11_number_137 : decode cX11_number 137 = .ok (.iadd, 1) := by decide +kernel
theorem dX11_number_138 : decode cX11_number 138 = .ok (.bipush 11, 2) := by decide +kernel
theorem dX11_number_140 : decode cX11_number 140 = .ok (.isub, 1) := by decide +kernel
theorem dX11_number_141 : decode cX11_number 141 = .ok (.iaload, 1) := by decide +kernel
theorem dX11_number_142 : decode cX11_number 142 = .ok (.ireturn, 1) := by decide +kernel
theorem dX11_count_0 : decode cX11_count 0 = .ok (.iload_n 1, 1) := by decide +kernel
theorem dX11_count_1 : decode cX11_count 1 = .ok (.iconst 0, 1) := by decide +kernel
theorem dX11_count_2 : decode cX11_count 2 = .ok (.bipush 15, 2) := by decide +kernel
theorem dX11_count_4 : decode cX11_count 4 = .ok (.invokestatic 62, 3) := by decide +kernel
theorem dX11_count_7 : decode cX11_count 7 = .ok (.ifCond .ne 6, 3) := by decide +kernel
theorem dX11_count_10 : decode cX11_count 10 = .ok (.bipush (-2), 2) := by decide +kernel
theorem dX11_count_12 : decode cX11_count 12 = .ok (.ireturn, 1) := by decide +kernel
theorem dX11_count_13 : decode cX11_count 13 = .ok (.aload_n 0, 1) := by decide +kernel
theorem dX11_count_14 : decode cX11_count 14 = .ok (.invokevirtual 188, 3) := by decide +kernel
theorem dX11_count_17 : decode cX11_count 17 = .ok (.aload_n 0, 1) := by decide +kernel
theorem dX11_count_18 : decode cX11_count 18 = .ok (.iload_n 1, 1) := by decide +kernel
theorem dX11_count_19 : decode cX11_count 19 = .ok (.invokevirtual 237, 3) := by decide +kernel
theorem dX11_count_22 : decode cX11_count 22 = .ok (.ireturn, 1) := by decide +kernel
theorem dX11_mixes_0 : decode cX11_mixes 0 = .ok (.aload_n 0, 1) := by decide +kernel
theorem dX11_mixes_1 : decode cX11_mixes 1 = .ok (.ldc2_w 240, 3) := by decide +kernel
theorem dX11_mixes_4 : decode cX11_mixes 4 = .ok (.aload_n 0, 1) := by decide +kernel
theorem dX11_mixes_5 : decode cX11_mixes 5 = .ok (.getfield 242, 3) := by decide +kernel
theorem dX11_mixes_8 : decode cX11_mixes 8 = .ok (.lmul, 1) := by decide +kernel
theorem dX11_mixes_9 : decode cX11_mixes 9 = .ok (.lload_n 1, 1) := by decide +kernel
theorem dX11_mixes_10 : decode cX11_mixes 10 = .ok (.ladd, 1) := by decide +kernel
theorem dX11_mixes_11 : decode cX11_mixes 11 = .ok (.putfield 242, 3) := by decide +kernel
theorem dX11_mixes_14 : decode cX11_mixes 14 = .ok (.return_, 1) := by decide +kernel
theorem dX11_digest_0 : decode cX11_digest 0 = .ok (.aload_n 0, 1) := by decide +kernel
theorem dX11_digest_1 : decode cX11_digest 1 = .ok (.ldc2_w 246, 3) := by decide +kernel
theorem dX11_digest_4 : decode cX11_digest 4 = .ok (.putfield 242, 3) := by decide +kernel
theorem dX11_digest_7 : decode cX11_digest 7 = .ok (.aload_n 0, 1) := by decide +kernel
theorem dX11_digest_8 : decode cX11_digest 8 = .ok (.invokevirtual 188, 3) := by decide +kernel
theorem dX11_digest_11 : decode cX11_digest 11 = .ok (.iconst 0, 1) := by decide +kernel
theorem dX11_digest_12 : decode cX11_digest 12 = .ok (.istore_n 1, 1) := by decide +kernel
theorem dX11_digest_13 : decode cX11_digest 13 = .ok (.iload_n 1, 1) := by decide +kernel
theorem dX11_digest_14 : decode cX11_digest 14 = .ok (.bipush 16, 2) := by decide +kernel
theorem dX11_digest_16 : decode cX11_digest 16 = .ok (.if_icmp .ge 19, 3) := by decide +kernel
theorem dX11_digest_19 : decode cX11_digest 19 = .ok (.aload_n 0, 1) := by decide +kernel
theorem dX11_digest_20 : decode cX11_digest 20 = .ok (.aload_n 0, 1) := by decide +kernel
theorem dX11_digest_21 : decode cX11_digest 21 = .ok (.iload_n 1, 1) := by decide +kernel
theorem dX11_digest_22 : decode cX11_digest 22 = .ok (.invokevirtual 237, 3) := by decide +kernel
theorem dX11_digest_25 : decode cX11_digest 25 = .ok (.i2l, 1) := by decide +kernel
theorem dX11_digest_26 : decode cX11_digest 26 = .ok (.invokevirtual 248, 3) := by decide +kernel
theorem dX11_digest_29 : decode cX11_digest 29 = .ok (.iinc 1 1, 3) := by decide +kernel
theorem dX11_digest_32 : decode cX11_digest 32 = .ok (.goto (-19), 3) := by decide +kernel
theorem dX11_digest_35 : decode cX11_digest 35 = .ok (.iconst 0, 1) := by decide +kernel
theorem dX11_digest_36 : decode cX11_digest 36 = .ok (.istore_n 1, 1) := by decide +kernel
theorem dX11_digest_37 : decode cX11_digest 37 = .ok (.iload_n 1, 1) := by decide +kernel
theorem dX11_digest_38 : decode cX11_digest 38 = .ok (.bipush 10, 2) := by decide +kernel
theorem dX11_digest_40 : decode cX11_digest 40 = .ok (.aload_n 0, 1) := by decide +kernel
theorem dX11_digest_41 : decode cX11_digest 41 = .ok (.getfield 7, 3) := by decide +kernel
theorem dX11_digest_44 : decode cX11_digest 44 = .ok (.sipush 2040, 3) := by decide +kernel
theorem dX11_digest_47 : decode cX11_digest 47 = .ok (.iaload, 1) := by decide +kernel
theorem dX11_digest_48 : decode cX11_digest 48 = .ok (.imul, 1) := by decide +kernel
theorem dX11_digest_49 : decode cX11_digest 49 = .ok (.if_icmp .ge 26, 3) := by decide +kernel
theorem dX11_digest_52 : decode cX11_digest 52 = .ok (.aload_n 0, 1) := by decide +kernel
theorem dX11_digest_53 : decode cX11_digest 53 = .ok (.aload_n 0, 1) := by decide +kernel
theorem dX11_digest_54 : decode cX11_digest 54 = .ok (.iload_n 1, 1) := by decide +kernel
theorem dX11_digest_55 : decode cX11_digest 55 = .ok (.bipush 10, 2) := by decide +kernel
theorem dX11_digest_57 : decode cX11_digest 57 = .ok (.idiv, 1) := by decide +kernel
theorem dX11_digest_58 : decode cX11_digest 58 = .ok (.iload_n 1, 1) := by decide +kernel
theorem dX11_digest_59 : decode cX11_digest 59 = .ok (.bipush 10, 2) := by decide +kernel
theorem dX11_digest_61 : decode cX11_digest 61 = .ok (.irem, 1) := by decide +kernel
theorem dX11_digest_62 : decode cX11_digest 62 = .ok (.invokevirtual 191, 3) := by decide +kernel
theorem dX11_digest_65 : decode cX11_digest 65 = .ok (.i2l, 1) := by decide +kernel
theorem dX11_digest_66 : decode cX11_digest 66 = .ok (.invokevirtual 248, 3) := by decide +kernel
theorem dX11_digest_69 : decode cX11_digest 69 = .ok (.iinc 1 1, 3) := by decide +kernel
theorem dX11_digest_72 : decode cX11_digest 72 = .ok (.goto (-35), 3) := by decide +kernel
theorem dX11_digest_75 : decode cX11_digest 75 = .ok (.iconst 0, 1) := by decide +kernel
theorem dX11_digest_76 : decode cX11_digest 76 = .ok (.istore_n 1, 1) := by decide +kernel
theorem dX11_digest_77 : decode cX11_digest 77 = .ok (.iload_n 1, 1) := by decide +kernel
theorem dX11_digest_78 : decode cX11_digest 78 = .ok (.bipush 9, 2) := by decide +kernel
theorem dX11_digest_80 : decode cX11_digest 80 = .ok (.aload_n 0, 1) := by decide +kernel
theorem dX11_digest_81 : decode cX11_digest 81 = .ok (.getfield 150, 3) := by decide +kernel
theorem dX11_digest_84 : decode cX11_digest 84 = .ok (.imul, 1) := by decide +kernel
theorem dX11_digest_85 : decode cX11_digest 85 = .ok (.if_icmp .ge 26, 3) := by decide +kernel
theorem dX11_digest_88 : decode cX11_digest 88 = .ok (.aload_n 0, 1) := by decide +kernel
theorem dX11_digest_89 : decode cX11_digest 89 = .ok (.aload_n 0, 1) := by decide +kernel
theorem dX11_digest_90 : decode cX11_digest 90 = .ok (.iload_n 1, 1) := by decide +kernel
theorem dX11_digest_91 : decode cX11_digest 91 = .ok (.bipush 9, 2) := by decide +kernel
theorem dX11_digest_93 : decode cX11_digest 93 = .ok (.idiv, 1) := by decide +kernel
theorem dX11_digest_94 : decode cX11_digest 94 = .ok (.iload_n 1, 1) := by decide +kernel
theorem dX11_digest_95 : decode cX11_digest 95 = .ok (.bipush 9, 2) := by decide +kernel
theorem dX11_digest_97 : decode cX11_digest 97 = .ok (.irem, 1) := by decide +kernel
theorem dX11_digest_98 : decode cX11_digest 98 = .ok (.invokevirtual 197, 3) := by decide +kernel
theorem dX11_digest_101 : decode cX11_digest 101 = .ok (.i2l, 1) := by decide +kernel
theorem dX11_digest_102 : decode cX11_digest 102 = .ok (.invokevirtual 248, 3) := by decide +kernel
theorem dX11_digest_105 : decode cX11_digest 105 = .ok (.iinc 1 1, 3) := by decide +kernel
theorem dX11_digest_108 : decode cX11_digest 108 = .ok (.goto (-31), 3) := by decide +kernel
theorem dX11_digest_111 : decode cX11_digest 111 = .ok (.iconst 0, 1) := by decide +kernel
theorem dX11_digest_112 : decode cX11_digest 112 = .ok (.istore_n 1, 1) := by decide +kernel
theorem dX11_digest_113 : decode cX11_digest 113 = .ok (.iload_n 1, 1) := by decide +kernel
theorem dX11_digest_114 : decode cX11_digest 114 = .ok (.iconst 5, 1) := by decide +kernel
theorem dX11_digest_115 : decode cX11_digest 115 = .ok (.aload_n 0, 1) := by decide +kernel
theorem dX11_digest_116 : decode cX11_digest 116 = .ok (.invokevirtual 200, 3) := by decide +kernel
theorem dX11_digest_119 : decode cX11_digest 119 = .ok (.imul, 1) := by decide +kernel
theorem dX11_digest_120 : decode cX11_digest 120 = .ok (.if_icmp .ge 24, 3) := by decide +kernel
theorem dX11_digest_123 : decode cX11_digest 123 = .ok (.aload_n 0, 1) := by decide +kernel
theorem dX11_digest_124 : decode cX11_digest 124 = .ok (.aload_n 0, 1) := by decide +kernel
theorem dX11_digest_125 : decode cX11_digest 125 = .ok (.iload_n 1, 1) := by decide +kernel
theorem dX11_digest_126 : decode cX11_digest 126 = .ok (.iconst 5, 1) := by decide +kernel
theorem dX11_digest_127 : decode cX11_digest 127 = .ok (.idiv, 1) := by decide +kernel
theorem dX11_digest_128 : decode cX11_digest 128 = .ok (.iload_n 1, 1) := by decide +kernel
theorem dX11_digest_129 : decode cX11_digest 129 = .ok (.iconst 5, 1) := by decide +kernel
theorem dX11_digest_130 : decode cX11_digest 130 = .ok (.irem, 1) := by decide +kernel
theorem dX11_digest_131 : decode cX11_digest 131 = .ok (.invokevirtual 212, 3) := by decide +kernel
theorem dX11_digest_134 : decode cX11_digest 134 = .ok (.i2l, 1) := by decide +kernel
theorem dX11_digest_135 : decode cX11_digest 135 = .ok (.invokevirtual 248, 3) := by decide +kernel
theorem dX11_digest_138 : decode cX11_digest 138 = .ok (.iinc 1 1, 3) := by decide +kernel
theorem dX11_digest_141 : decode cX11_digest 141 = .ok (.goto (-28), 3) := by decide +kernel
theorem dX11_digest_144 : decode cX11_digest 144 = .ok (.iconst 0, 1) := by decide +kernel
theorem dX11_digest_145 : decode cX11_digest 145 = .ok (.istore_n 1, 1) := by decide +kernel
theorem dX11_digest_146 : decode cX11_digest 146 = .ok (.iload_n 1, 1) := by decide +kernel
theorem dX11_digest_147 : decode cX11_digest 147 = .ok (.aload_n 0, 1) := by decide +kernel
theorem dX11_digest_148 : decode cX11_digest 148 = .ok (.getfield 7, 3) := by decide +kernel
theorem dX11_digest_151 : decode cX11_digest 151 = .ok (.sipush 2041, 3) := by decide +kernel
theorem dX11_digest_154 : decode cX11_digest 154 = .ok (.iaload, 1) := by decide +kernel
theorem dX11_digest_155 : decode cX11_digest 155 = .ok (.aload_n 0, 1) := by decide +kernel
theorem dX11_digest_156 : decode cX11_digest 156 = .ok (.getfield 150, 3) := by decide +kernel
theorem dX11_digest_159 : decode cX11_digest 159 = .ok (.imul, 1) := by decide +kernel
theorem dX11_digest_160 : decode cX11_digest 160 = .ok (.if_icmp .ge 38, 3) := by decide +kernel
theorem dX11_digest_163 : decode cX11_digest 163 = .ok (.aload_n 0, 1) := by decide +kernel
theorem dX11_digest_164 : decode cX11_digest 164 = .ok (.aload_n 0, 1) := by decide +kernel
theorem dX11_digest_165 : decode cX11_digest 165 = .ok (.iload_n 1, 1) := by decide +kernel
theorem dX11_digest_166 : decode cX11_digest 166 = .ok (.aload_n 0, 1) := by decide +kernel
theorem dX11_digest_167 : decode cX11_digest 167 = .ok (.getfield 7, 3) := by decide +kernel
theorem dX11_digest_170 : decode cX11_digest 170 = .ok (.sipush 2041, 3) := by decide +kernel
theorem dX11_digest_173 : decode cX11_digest 173 = .ok (.iaload, 1) := by decide +kernel
theorem dX11_digest_174 : decode cX11_digest 174 = .ok (.idiv, 1) := by decide +kernel
theorem dX11_digest_175 : decode cX11_digest 175 = .ok (.iload_n 1, 1) := by decide +kernel
theorem dX11_digest_176 : decode cX11_digest 176 = .ok (.aload_n 0, 1) := by decide +kernel
theorem dX11_digest_177 : decode cX11_digest 177 = .ok (.getfield 7, 3) := by decide +kernel
theorem dX11_digest_180 : decode cX11_digest 180 = .ok (.sipush 2041, 3) := by decide +kernel
theorem dX11_digest_183 : decode cX11_digest 183 = .ok (.iaload, 1) := by decide +kernel
theorem dX11_digest_184 : decode cX11_digest 184 = .ok (.irem, 1) := by decide +kernel
theorem dX11_digest_185 : decode cX11_digest 185 = .ok (.invokevirtual 203, 3) := by decide +kernel
theorem dX11_digest_188 : decode cX11_digest 188 = .ok (.i2l, 1) := by decide +kernel
theorem dX11_digest_189 : decode cX11_digest 189 = .ok (.invokevirtual 248, 3) := by decide +kernel
theorem dX11_digest_192 : decode cX11_digest 192 = .ok (.iinc 1 1, 3) := by decide +kernel
theorem dX11_digest_195 : decode cX11_digest 195 = .ok (.goto (-49), 3) := by decide +kernel
theorem dX11_digest_198 : decode cX11_digest 198 = .ok (.iconst 0, 1) := by decide +kernel
theorem dX11_digest_199 : decode cX11_digest 199 = .ok (.istore_n 1, 1) := by decide +kernel
theorem dX11_digest_200 : decode cX11_digest 200 = .ok (.iload_n 1, 1) := by decide +kernel
theorem dX11_digest_201 : decode cX11_digest 201 = .ok (.aload_n 0, 1) := by decide +kernel
theorem dX11_digest_202 : decode cX11_digest 202 = .ok (.invokevirtual 137, 3) := by decide +kernel
theorem dX11_digest_205 : decode cX11_digest 205 = .ok (.if_icmp .ge 19, 3) := by decide +kernel
theorem dX11_digest_208 : decode cX11_digest 208 = .ok (.aload_n 0, 1) := by decide +kernel
theorem dX11_digest_209 : decode cX11_digest 209 = .ok (.aload_n 0, 1) := by decide +kernel
theorem dX11_digest_210 : decode cX11_digest 210 = .ok (.iload_n 1, 1) := by decide +kernel
theorem dX11_digest_211 : decode cX11_digest 211 = .ok (.invokevirtual 222, 3) := by decide +kernel
theorem dX11_digest_214 : decode cX11_digest 214 = .ok (.i2l, 1) := by decide +kernel
theorem dX11_digest_215 : decode cX11_digest 215 = .ok (.invokevirtual 248, 3) := by decide +kernel
theorem dX11_digest_218 : decode cX11_digest 218 = .ok (.iinc 1 1, 3) := by decide +kernel
theorem dX11_digest_221 : decode cX11_digest 221 = .ok (.goto (-21), 3) := by decide +kernel
theorem dX11_digest_224 : decode cX11_digest 224 = .ok (.iconst 0, 1) := by decide +kernel
theorem dX11_digest_225 : decode cX11_digest 225 = .ok (.istore_n 1, 1) := by decide +kernel
theorem dX11_digest_226 : decode cX11_digest 226 = .ok (.iload_n 1, 1) := by decide +kernel
theorem dX11_digest_227 : decode cX11_digest 227 = .ok (.aload_n 0, 1) := by decide +kernel
theorem dX11_digest_228 : decode cX11_digest 228 = .ok (.getfield 66, 3) := by decide +kernel
theorem dX11_digest_231 : decode cX11_digest 231 = .ok (.if_icmp .ge 20, 3) := by decide +kernel
theorem dX11_digest_234 : decode cX11_digest 234 = .ok (.aload_n 0, 1) := by decide +kernel
theorem dX11_digest_235 : decode cX11_digest 235 = .ok (.aload_n 0, 1) := by decide +kernel
theorem dX11_digest_236 : decode cX11_digest 236 = .ok (.getfield 16, 3) := by decide +kernel
theorem dX11_digest_239 : decode cX11_digest 239 = .ok (.iload_n 1, 1) := by decide +kernel
theorem dX11_digest_240 : decode cX11_digest 240 = .ok (.iaload, 1) := by decide +kernel
theorem dX11_digest_241 : decode cX11_digest 241 = .ok (.i2l, 1) := by decide +kernel
theorem dX11_digest_242 : decode cX11_digest 242 = .ok (.invokevirtual 248, 3) := by decide +kernel
theorem dX11_digest_245 : decode cX11_digest 245 = .ok (.iinc 1 1, 3) := by decide +kernel
theorem dX11_digest_248 : decode cX11_digest 248 = .ok (.goto (-22), 3) := by decide +kernel
theorem dX11_digest_251 : decode cX11_digest 251 = .ok (.aload_n 0, 1) := by decide +kernel
theorem dX11_digest_252 : decode cX11_digest 252 = .ok (.getfield 242, 3) := by decide +kernel
theorem dX11_digest_255 : decode cX11_digest 255 = .ok (.lreturn, 1) := by decide +kernel
theorem dJ9_abs_0f7a4_0 : decode cJ9_abs_0f7a4 0 = .ok (.iload_n 0, 1) := by decide +kernel
theorem dJ9_abs_0f7a4_1 : decode cJ9_abs_0f7a4 1 = .ok (.ifCond .ge 8, 3) := by decide +kernel
theorem dJ9_abs_0f7a4_4 : decode cJ9_abs_0f7a4 4 = .ok (.iload_n 0, 1) := by decide +kernel
theorem dJ9_abs_0f7a4_5 : decode cJ9_abs_0f7a4 5 = .ok (.ineg, 1) := by decide +kernel
theorem dJ9_abs_0f7a4_6 : decode cJ9_abs_0f7a4 6 = .ok (.goto 4, 3) := by decide +kernel
theorem dJ9_abs_0f7a4_9 : decode cJ9_abs_0f7a4 9 = .ok (.iload_n 0, 1) := by decide +kernel
theorem dJ9_abs_0f7a4_10 : decode cJ9_abs_0f7a4 10 = .ok (.ireturn, 1) := by decide +kernel
theorem dJ9_max_7cf53_0 : decode cJ9_max_7cf53 0 = .ok (.iload_n 0, 1) := by decide +kernel
theorem dJ9_max_7cf53_1 : decode cJ9_max_7cf53 1 = .ok (.iload_n 1, 1) := by decide +kernel
theorem dJ9_max_7cf53_2 : decode cJ9_max_7cf53 2 = .ok (.if_icmp .lt 7, 3) := by decide +kernel
theorem dJ9_max_7cf53_5 : decode cJ9_max_7cf53 5 = .ok (.iload_n 0, 1) := by decide +kernel
theorem dJ9_max_7cf53_6 : decode cJ9_max_7cf53 6 = .ok (.goto 4, 3) := by decide +kernel
theorem dJ9_max_7cf53_9 : decode cJ9_max_7cf53 9 = .ok (.iload_n 1, 1) := by decide +kernel
theorem dJ9_max_7cf53_10 : decode cJ9_max_7cf53 10 = .ok (.ireturn, 1) := by decide +kernel
theorem dJ9_min_7cf53_0 : decode cJ9_min_7cf53 0 = .ok (.iload_n 0, 1) := by decide +kernel
theorem dJ9_min_7cf53_1 : decode cJ9_min_7cf53 1 = .ok (.iload_n 1, 1) := by decide +kernel
theorem dJ9_min_7cf53_2 : decode cJ9_min_7cf53 2 = .ok (.if_icmp .gt 7, 3) := by decide +kernel
theorem dJ9_min_7cf53_5 : decode cJ9_min_7cf53 5 = .ok (.iload_n 0, 1) := by decide +kernel
theorem dJ9_min_7cf53_6 : decode cJ9_min_7cf53 6 = .ok (.goto 4, 3) := by decide +kernel
theorem dJ9_min_7cf53_9 : decode cJ9_min_7cf53 9 = .ok (.iload_n 1, 1) := by decide +kernel
theorem dJ9_min_7cf53_10 : decode cJ9_min_7cf53 10 = .ok (.ireturn, 1) := by decide +kernel
theorem dJ0_length_8abf5_0 : decode cJ0_length_8abf5 0 = .ok (.aload_n 0, 1) := by decide +kernel
theorem dJ0_length_8abf5_1 : decode cJ0_length_8abf5 1 = .ok (.getfield 9, 3) := by decide +kernel
theorem dJ0_length_8abf5_4 : decode cJ0_length_8abf5 4 = .ok (.arraylength, 1) := by decide +kernel
theorem dJ0_length_8abf5_5 : decode cJ0_length_8abf5 5 = .ok (.aload_n 0, 1) := by decide +kernel
theorem dJ0_length_8abf5_6 : decode cJ0_length_8abf5 6 = .ok (.invokevirtual 335, 3) := by decide +kernel
theorem dJ0_length_8abf5_9 : decode cJ0_length_8abf5 9 = .ok (.ishr, 1) := by decide +kernel
theorem dJ0_length_8abf5_10 : decode cJ0_length_8abf5 10 = .ok (.ireturn, 1) := by decide +kernel
theorem dJ0_charAt_5068e_0 : decode cJ0_charAt_5068e 0 = .ok (.aload_n 0, 1) := by decide +kernel
theorem dJ0_charAt_5068e_1 : decode cJ0_charAt_5068e 1 = .ok (.invokevirtual 492, 3) := by decide +kernel
theorem dJ0_charAt_5068e_4 : decode cJ0_charAt_5068e 4 = .ok (.ifCond .eq 12, 3) := by decide +kernel
theorem dJ0_charAt_5068e_7 : decode cJ0_charAt_5068e 7 = .ok (.aload_n 0, 1) := by decide +kernel
theorem dJ0_charAt_5068e_8 : decode cJ0_charAt_5068e 8 = .ok (.getfield 9, 3) := by decide +kernel
theorem dJ0_charAt_5068e_11 : decode cJ0_charAt_5068e 11 = .ok (.iload_n 1, 1) := by decide +kernel
theorem dJ0_charAt_5068e_12 : decode cJ0_charAt_5068e 12 = .ok (.invokestatic 495, 3) := by decide +kernel
theorem dJ0_charAt_5068e_15 : decode cJ0_charAt_5068e 15 = .ok (.ireturn, 1) := by decide +kernel
theorem dJ0_charAt_5068e_16 : decode cJ0_charAt_5068e 16 = .ok (.aload_n 0, 1) := by decide +kernel
theorem dJ0_charAt_5068e_17 : decode cJ0_charAt_5068e 17 = .ok (.getfield 9, 3) := by decide +kernel
theorem dJ0_charAt_5068e_20 : decode cJ0_charAt_5068e 20 = .ok (.iload_n 1, 1) := by decide +kernel
theorem dJ0_charAt_5068e_21 : decode cJ0_charAt_5068e 21 = .ok (.invokestatic 498, 3) := by decide +kernel
theorem dJ0_charAt_5068e_24 : decode cJ0_charAt_5068e 24 = .ok (.ireturn, 1) := by decide +kernel
theorem dJ0_coder_7d493_0 : decode cJ0_coder_7d493 0 = .ok (.getstatic 38, 3) := by decide +kernel
theorem dJ0_coder_7d493_3 : decode cJ0_coder_7d493 3 = .ok (.ifCond .eq 10, 3) := by decide +kernel
theorem dJ0_coder_7d493_6 : decode cJ0_coder_7d493 6 = .ok (.aload_n 0, 1) := by decide +kernel
theorem dJ0_coder_7d493_7 : decode cJ0_coder_7d493 7 = .ok (.getfield 15, 3) := by decide +kernel
theorem dJ0_coder_7d493_10 : decode cJ0_coder_7d493 10 = .ok (.goto 4, 3) := by decide +kernel
theorem dJ0_coder_7d493_13 : decode cJ0_coder_7d493 13 = .ok (.iconst 1, 1) := by decide +kernel
theorem dJ0_coder_7d493_14 : decode cJ0_coder_7d493 14 = .ok (.ireturn, 1) := by decide +kernel
theorem dJ0_isLatin1_aae02_0 : decode cJ0_isLatin1_aae02 0 = .ok (.getstatic 38, 3) := by decide +kernel
theorem dJ0_isLatin1_aae02_3 : decode cJ0_isLatin1_aae02 3 = .ok (.ifCond .eq 14, 3) := by decide +kernel
theorem dJ0_isLatin1_aae02_6 : decode cJ0_isLatin1_aae02 6 = .ok (.aload_n 0, 1) := by decide +kernel
theorem dJ0_isLatin1_aae02_7 : decode cJ0_isLatin1_aae02 7 = .ok (.getfield 15, 3) := by decide +kernel
theorem dJ0_isLatin1_aae02_10 : decode cJ0_isLatin1_aae02 10 = .ok (.ifCond .ne 7, 3) := by decide +kernel
theorem dJ0_isLatin1_aae02_13 : decode cJ0_isLatin1_aae02 13 = .ok (.iconst 1, 1) := by decide +kernel
theorem dJ0_isLatin1_aae02_14 : decode cJ0_isLatin1_aae02 14 = .ok (.goto 4, 3) := by decide +kernel
theorem dJ0_isLatin1_aae02_17 : decode cJ0_isLatin1_aae02 17 = .ok (.iconst 0, 1) := by decide +kernel
theorem dJ0_isLatin1_aae02_18 : decode cJ0_isLatin1_aae02 18 = .ok (.ireturn, 1) := by decide +kernel
theorem dJ0_checkIndex_df160_0 : decode cJ0_checkIndex_df160 0 = .ok (.iload_n 0, 1) := by decide +kernel
theorem dJ0_checkIndex_df160_1 : decode cJ0_checkIndex_df160 1 = .ok (.iload_n 1, 1) := by decide +kernel
theorem dJ0_checkIndex_df160_2 : decode cJ0_checkIndex_df160 2 = .ok (.getstatic 1053, 3) := by decide +kernel
theorem dJ0_checkIndex_df160_5 : decode cJ0_checkIndex_df160 5 = .ok (.invokestatic 1059, 3) := by decide +kernel
theorem dJ0_checkIndex_df160_8 : decode cJ0_checkIndex_df160 8 = .ok (.pop, 1) := by decide +kernel
theorem dJ0_checkIndex_df160_9 : decode cJ0_checkIndex_df160 9 = .ok (.return_, 1) := by decide +kernel
theorem dJ1_charAt_3b067_0 : decode cJ1_charAt_3b067 0 = .ok (.iload_n 1, 1) := by decide +kernel
theorem dJ1_charAt_3b067_1 : decode cJ1_charAt_3b067 1 = .ok (.aload_n 0, 1) := by decide +kernel
theorem dJ1_charAt_3b067_2 : decode cJ1_charAt_3b067 2 = .ok (.arraylength, 1) := by decide +kernel
theorem dJ1_charAt_3b067_3 : decode cJ1_charAt_3b067 3 = .ok (.invokestatic 9, 3) := by decide +kernel
theorem dJ1_charAt_3b067_6 : decode cJ1_charAt_3b067 6 = .ok (.aload_n 0, 1) := by decide +kernel
theorem dJ1_charAt_3b067_7 : decode cJ1_charAt_3b067 7 = .ok (.iload_n 1, 1) := by decide +kernel
theorem dJ1_charAt_3b067_8 : decode cJ1_charAt_3b067 8 = .ok (.baload, 1) := by decide +kernel
theorem dJ1_charAt_3b067_9 : decode cJ1_charAt_3b067 9 = .ok (.sipush 255, 3) := by decide +kernel
theorem dJ1_charAt_3b067_12 : decode cJ1_charAt_3b067 12 = .ok (.iand, 1) := by decide +kernel
theorem dJ1_charAt_3b067_13 : decode cJ1_charAt_3b067 13 = .ok (.i2c, 1) := by decide +kernel
theorem dJ1_charAt_3b067_14 : decode cJ1_charAt_3b067 14 = .ok (.ireturn, 1) := by decide +kernel
theorem dJ2_getChar_3b067_0 : decode cJ2_getChar_3b067 0 = .ok (.getstatic 44, 3) := by decide +kernel
theorem dJ2_getChar_3b067_3 : decode cJ2_getChar_3b067 3 = .ok (.ifCond .ne 25, 3) := by decide +kernel
theorem dJ2_getChar_3b067_6 : decode cJ2_getChar_3b067 6 = .ok (.iload_n 1, 1) := by decide +kernel
theorem dJ2_getChar_3b067_7 : decode cJ2_getChar_3b067 7 = .ok (.ifCond .lt 11, 3) := by decide +kernel
theorem dJ2_getChar_3b067_10 : decode cJ2_getChar_3b067 10 = .ok (.iload_n 1, 1) := by decide +kernel
theorem dJ2_getChar_3b067_11 : decode cJ2_getChar_3b067 11 = .ok (.aload_n 0, 1) := by decide +kernel
theorem dJ2_getChar_3b067_12 : decode cJ2_getChar_3b067 12 = .ok (.invokestatic 48, 3) := by decide +kernel
theorem dJ2_getChar_3b067_15 : decode cJ2_getChar_3b067 15 = .ok (.if_icmp .lt 13, 3) := by decide +kernel
theorem dJ2_getChar_3b067_18 : decode cJ2_getChar_3b067 18 = .ok (.new 52, 3) := by decide +kernel
theorem dJ2_getChar_3b067_21 : decode cJ2_getChar_3b067 21 = .ok (.dup, 1) := by decide +kernel
theorem dJ2_getChar_3b067_22 : decode cJ2_getChar_3b067 22 = .ok (.ldc 54, 2) := by decide +kernel
theorem dJ2_getChar_3b067_24 : decode cJ2_getChar_3b067 24 = .ok (.invokespecial 56, 3) := by decide +kernel
theorem dJ2_getChar_3b067_27 : decode cJ2_getChar_3b067 27 = .ok (.athrow, 1) := by decide +kernel
theorem dJ2_getChar_3b067_28 : decode cJ2_getChar_3b067 28 = .ok (.iload_n 1, 1) := by decide +kernel
theorem dJ2_getChar_3b067_29 : decode cJ2_getChar_3b067 29 = .ok (.iconst 1, 1) := by decide +kernel
theorem dJ2_getChar_3b067_30 : decode cJ2_getChar_3b067 30 = .ok (.ishl, 1) := by decide +kernel
theorem dJ2_getChar_3b067_31 : decode cJ2_getChar_3b067 31 = .ok (.istore_n 1, 1) := by decide +kernel
theorem dJ2_getChar_3b067_32 : decode cJ2_getChar_3b067 32 = .ok (.aload_n 0, 1) := by decide +kernel
theorem dJ2_getChar_3b067_33 : decode cJ2_getChar_3b067 33 = .ok (.iload_n 1, 1) := by decide +kernel
theorem dJ2_getChar_3b067_34 : decode cJ2_getChar_3b067 34 = .ok (.iinc 1 1, 3) := by decide +kernel
theorem dJ2_getChar_3b067_37 : decode cJ2_getChar_3b067 37 = .ok (.baload, 1) := by decide +kernel
theorem dJ2_getChar_3b067_38 : decode cJ2_getChar_3b067 38 = .ok (.sipush 255, 3) := by decide +kernel
theorem dJ2_getChar_3b067_41 : decode cJ2_getChar_3b067 41 = .ok (.iand, 1) := by decide +kernel
theorem dJ2_getChar_3b067_42 : decode cJ2_getChar_3b067 42 = .ok (.getstatic 59, 3) := by decide +kernel
theorem dJ2_getChar_3b067_45 : decode cJ2_getChar_3b067 45 = .ok (.ishl, 1) := by decide +kernel
theorem dJ2_getChar_3b067_46 : decode cJ2_getChar_3b067 46 = .ok (.aload_n 0, 1) := by decide +kernel
theorem dJ2_getChar_3b067_47 : decode cJ2_getChar_3b067 47 = .ok (.iload_n 1, 1) := by decide +kernel
theorem dJ2_getChar_3b067_48 : decode cJ2_getChar_3b067 48 = .ok (.baload, 1) := by decide +kernel
theorem dJ2_getChar_3b067_49 : decode cJ2_getChar_3b067 49 = .ok (.sipush 255, 3) := by decide +kernel
theorem dJ2_getChar_3b067_52 : decode cJ2_getChar_3b067 52 = .ok (.iand, 1) := by decide +kernel
theorem dJ2_getChar_3b067_53 : decode cJ2_getChar_3b067 53 = .ok (.getstatic 63, 3) := by decide +kernel
theorem dJ2_getChar_3b067_56 : decode cJ2_getChar_3b067 56 = .ok (.ishl, 1) := by decide +kernel
theorem dJ2_getChar_3b067_57 : decode cJ2_getChar_3b067 57 = .ok (.ior, 1) := by decide +kernel
theorem dJ2_getChar_3b067_58 : decode cJ2_getChar_3b067 58 = .ok (.i2c, 1) := by decide +kernel
theorem dJ2_getChar_3b067_59 : decode cJ2_getChar_3b067 59 = .ok (.ireturn, 1) := by decide +kernel
theorem dJ2_length_9d52b_0 : decode cJ2_length_9d52b 0 = .ok (.aload_n 0, 1) := by decide +kernel
theorem dJ2_length_9d52b_1 : decode cJ2_length_9d52b 1 = .ok (.arraylength, 1) := by decide +kernel
theorem dJ2_length_9d52b_2 : decode cJ2_length_9d52b 2 = .ok (.iconst 1, 1) := by decide +kernel
theorem dJ2_length_9d52b_3 : decode cJ2_length_9d52b 3 = .ok (.ishr, 1) := by decide +kernel
theorem dJ2_length_9d52b_4 : decode cJ2_length_9d52b 4 = .ok (.ireturn, 1) := by decide +kernel
theorem dJ2_charAt_3b067_0 : decode cJ2_charAt_3b067 0 = .ok (.iload_n 1, 1) := by decide +kernel
theorem dJ2_charAt_3b067_1 : decode cJ2_charAt_3b067 1 = .ok (.aload_n 0, 1) := by decide +kernel
theorem dJ2_charAt_3b067_2 : decode cJ2_charAt_3b067 2 = .ok (.invokestatic 67, 3) := by decide +kernel
theorem dJ2_charAt_3b067_5 : decode cJ2_charAt_3b067 5 = .ok (.aload_n 0, 1) := by decide +kernel
theorem dJ2_charAt_3b067_6 : decode cJ2_charAt_3b067 6 = .ok (.iload_n 1, 1) := by decide +kernel
theorem dJ2_charAt_3b067_7 : decode cJ2_charAt_3b067 7 = .ok (.invokestatic 71, 3) := by decide +kernel
theorem dJ2_charAt_3b067_10 : decode cJ2_charAt_3b067 10 = .ok (.ireturn, 1) := by decide +kernel
theorem dJ2_checkIndex_2214a_0 : decode cJ2_checkIndex_2214a 0 = .ok (.iload_n 0, 1) := by decide +kernel
theorem dJ2_checkIndex_2214a_1 : decode cJ2_checkIndex_2214a 1 = .ok (.aload_n 1, 1) := by decide +kernel
theorem dJ2_checkIndex_2214a_2 : decode cJ2_checkIndex_2214a 2 = .ok (.invokestatic 48, 3) := by decide +kernel
theorem dJ2_checkIndex_2214a_5 : decode cJ2_checkIndex_2214a 5 = .ok (.invokestatic 414, 3) := by decide +kernel
theorem dJ2_checkIndex_2214a_8 : decode cJ2_checkIndex_2214a 8 = .ok (.return_, 1) := by decide +kernel
theorem dJ3_checkIndex_8e157_0 : decode cJ3_checkIndex_8e157 0 = .ok (.iload_n 0, 1) := by decide +kernel
theorem dJ3_checkIndex_8e157_1 : decode cJ3_checkIndex_8e157 1 = .ok (.ifCond .lt 8, 3) := by decide +kernel
theorem dJ3_checkIndex_8e157_4 : decode cJ3_checkIndex_8e157 4 = .ok (.iload_n 0, 1) := by decide +kernel
theorem dJ3_checkIndex_8e157_5 : decode cJ3_checkIndex_8e157 5 = .ok (.iload_n 1, 1) := by decide +kernel
theorem dJ3_checkIndex_8e157_6 : decode cJ3_checkIndex_8e157 6 = .ok (.if_icmp .lt 10, 3) := by decide +kernel
theorem dJ3_checkIndex_8e157_9 : decode cJ3_checkIndex_8e157 9 = .ok (.aload_n 2, 1) := by decide +kernel
theorem dJ3_checkIndex_8e157_10 : decode cJ3_checkIndex_8e157 10 = .ok (.iload_n 0, 1) := by decide +kernel
theorem dJ3_checkIndex_8e157_11 : decode cJ3_checkIndex_8e157 11 = .ok (.iload_n 1, 1) := by decide +kernel
theorem dJ3_checkIndex_8e157_12 : decode cJ3_checkIndex_8e157 12 = .ok (.invokestatic 95, 3) := by decide +kernel
theorem dJ3_checkIndex_8e157_15 : decode cJ3_checkIndex_8e157 15 = .ok (.athrow, 1) := by decide +kernel
theorem dJ3_checkIndex_8e157_16 : decode cJ3_checkIndex_8e157 16 = .ok (.iload_n 0, 1) := by decide +kernel
theorem dJ3_checkIndex_8e157_17 : decode cJ3_checkIndex_8e157 17 = .ok (.ireturn, 1) := by decide +kernel
theorem dL_law_0 : decode cL_law 0 = .ok (.new 7, 3) := by decide +kernel
theorem dL_law_3 : decode cL_law 3 = .ok (.dup, 1) := by decide +kernel
theorem dL_law_4 : decode cL_law 4 = .ok (.invokespecial 9, 3) := by decide +kernel
theorem dL_law_7 : decode cL_law 7 = .ok (.astore_n 1, 1) := by decide +kernel
theorem dL_law_8 : decode cL_law 8 = .ok (.new 10, 3) := by decide +kernel
theorem dL_law_11 : decode cL_law 11 = .ok (.dup, 1) := by decide +kernel
theorem dL_law_12 : decode cL_law 12 = .ok (.invokespecial 12, 3) := by decide +kernel
theorem dL_law_15 : decode cL_law 15 = .ok (.astore_n 2, 1) := by decide +kernel
theorem dL_law_16 : decode cL_law 16 = .ok (.iconst 0, 1) := by decide +kernel
theorem dL_law_17 : decode cL_law 17 = .ok (.istore_n 3, 1) := by decide +kernel
theorem dL_law_18 : decode cL_law 18 = .ok (.iload_n 3, 1) := by decide +kernel
theorem dL_law_19 : decode cL_law 19 = .ok (.aload_n 0, 1) := by decide +kernel
theorem dL_law_20 : decode cL_law 20 = .ok (.arraylength, 1) := by decide +kernel
theorem dL_law_21 : decode cL_law 21 = .ok (.iconst 4, 1) := by decide +kernel
theorem dL_law_22 : decode cL_law 22 = .ok (.isub, 1) := by decide +kernel
theorem dL_law_23 : decode cL_law 23 = .ok (.if_icmp .gt 701, 3) := by decide +kernel
theorem dL_law_26 : decode cL_law 26 = .ok (.aload_n 0, 1) := by decide +kernel
theorem dL_law_27 : decode cL_law 27 = .ok (.iload_n 3, 1) := by decide +kernel
theorem dL_law_28 : decode cL_law 28 = .ok (.iaload, 1) := by decide +kernel
theorem dL_law_29 : decode cL_law 29 = .ok (.bipush 31, 2) := by decide +kernel
theorem dL_law_31 : decode cL_law 31 = .ok (.iand, 1) := by decide +kernel
theorem dL_law_32 : decode cL_law 32 = .ok (.tableswitch 686 0 20 #[100, 123, 136, 175, 198, 221, 244, 287, 336, 369, 402, 435, 448, 481, 524, 557, 580, 603, 626, 649, 672], 100) := by decide +kernel
theorem dL_law_132 : decode cL_law 132 = .ok (.aload_n 1, 1) := by decide +kernel
theorem dL_law_133 : decode cL_law 133 = .ok (.aload_n 0, 1) := by decide +kernel
theorem dL_law_134 : decode cL_law 134 = .ok (.iload_n 3, 1) := by decide +kernel
theorem dL_law_135 : decode cL_law 135 = .ok (.iconst 1, 1) := by decide +kernel
theorem dL_law_136 : decode cL_law 136 = .ok (.iadd, 1) := by decide +kernel
theorem dL_law_137 : decode cL_law 137 = .ok (.iaload, 1) := by decide +kernel
theorem dL_law_138 : decode cL_law 138 = .ok (.invokevirtual 13, 3) := by decide +kernel
theorem dL_law_141 : decode cL_law 141 = .ok (.aload_n 2, 1) := by decide +kernel
theorem dL_law_142 : decode cL_law 142 = .ok (.aload_n 0, 1) := by decide +kernel
theorem dL_law_143 : decode cL_law 143 = .ok (.iload_n 3, 1) := by decide +kernel
theorem dL_law_144 : decode cL_law 144 = .ok (.iconst 1, 1) := by decide +kernel
theorem dL_law_145 : decode cL_law 145 = .ok (.iadd, 1) := by decide +kernel
theorem dL_law_146 : decode cL_law 146 = .ok (.iaload, 1) := by decide +kernel
theorem dL_law_147 : decode cL_law 147 = .ok (.invokevirtual 17, 3) := by decide +kernel
theorem dL_law_150 : decode cL_law 150 = .ok (.if_icmp .eq 568, 3) := by decide +kernel
theorem dL_law_153 : decode cL_law 153 = .ok (.iconst 0, 1) := by decide +kernel
theorem dL_law_154 : decode cL_law 154 = .ok (.ireturn, 1) := by decide +kernel
theorem dL_law_155 : decode cL_law 155 = .ok (.aload_n 1, 1) := by decide +kernel
theorem dL_law_156 : decode cL_law 156 = .ok (.invokevirtual 18, 3) := by decide +kernel
theorem dL_law_159 : decode cL_law 159 = .ok (.aload_n 2, 1) := by decide +kernel
theorem dL_law_160 : decode cL_law 160 = .ok (.invokevirtual 22, 3) := by decide +kernel
theorem dL_law_163 : decode cL_law 163 = .ok (.if_icmp .eq 555, 3) := by decide +kernel
theorem dL_law_166 : decode cL_law 166 = .ok (.iconst 0, 1) := by decide +kernel
theorem dL_law_167 : decode cL_law 167 = .ok (.ireturn, 1) := by decide +kernel
theorem dL_law_168 : decode cL_law 168 = .ok (.aload_n 1, 1) := by decide +kernel
theorem dL_law_169 : decode cL_law 169 = .ok (.aload_n 0, 1) := by decide +kernel
theorem dL_law_170 : decode cL_law 170 = .ok (.iload_n 3, 1) := by decide +kernel
theorem dL_law_171 : decode cL_law 171 = .ok (.iconst 1, 1) := by decide +kernel
theorem dL_law_172 : decode cL_law 172 = .ok (.iadd, 1) := by decide +kernel
theorem dL_law_173 : decode cL_law 173 = .ok (.iaload, 1) := by decide +kernel
theorem dL_law_174 : decode cL_law 174 = .ok (.ifCond .eq 7, 3) := by decide +kernel
theorem dL_law_177 : decode cL_law 177 = .ok (.iconst 1, 1) := by decide +kernel
theorem dL_law_178 : decode cL_law 178 = .ok (.goto 4, 3) := by decide +kernel
theorem dL_law_181 : decode cL_law 181 = .ok (.iconst 0, 1) := by decide +kernel
theorem dL_law_182 : decode cL_law 182 = .ok (.invokevirtual 23, 3) := by decide +kernel
theorem dL_law_185 : decode cL_law 185 = .ok (.aload_n 2, 1) := by decide +kernel
theorem dL_law_186 : decode cL_law 186 = .ok (.aload_n 0, 1) := by decide +kernel
theorem dL_law_187 : decode cL_law 187 = .ok (.iload_n 3, 1) := by decide +kernel
theorem dL_law_188 : decode cL_law 188 = .ok (.iconst 1, 1) := by decide +kernel
theorem dL_law_189 : decode cL_law 189 = .ok (.iadd, 1) := by decide +kernel
theorem dL_law_190 : decode cL_law 190 = .ok (.iaload, 1) := by decide +kernel
theorem dL_law_191 : decode cL_law 191 = .ok (.ifCond .eq 7, 3) := by decide +kernel
theorem dL_law_194 : decode cL_law 194 = .ok (.iconst 1, 1) := by decide +kernel
theorem dL_law_195 : decode cL_law 195 = .ok (.goto 4, 3) := by decide +kernel
theorem dL_law_198 : decode cL_law 198 = .ok (.iconst 0, 1) := by decide +kernel
theorem dL_law_199 : decode cL_law 199 = .ok (.invokevirtual 27, 3) := by decide +kernel
theorem dL_law_202 : decode cL_law 202 = .ok (.if_icmp .eq 516, 3) := by decide +kernel
theorem dL_law_205 : decode cL_law 205 = .ok (.iconst 0, 1) := by decide +kernel
theorem dL_law_206 : decode cL_law 206 = .ok (.ireturn, 1) := by decide +kernel
theorem dL_law_207 : decode cL_law 207 = .ok (.aload_n 1, 1) := by decide +kernel
theorem dL_law_208 : decode cL_law 208 = .ok (.aload_n 0, 1) := by decide +kernel
theorem dL_law_209 : decode cL_law 209 = .ok (.iload_n 3, 1) := by decide +kernel
theorem dL_law_210 : decode cL_law 210 = .ok (.iconst 1, 1) := by decide +kernel
theorem dL_law_211 : decode cL_law 211 = .ok (.iadd, 1) := by decide +kernel
theorem dL_law_212 : decode cL_law 212 = .ok (.iaload, 1) := by decide +kernel
theorem dL_law_213 : decode cL_law 213 = .ok (.invokevirtual 28, 3) := by decide +kernel
theorem dL_law_216 : decode cL_law 216 = .ok (.aload_n 2, 1) := by decide +kernel
theorem dL_law_217 : decode cL_law 217 = .ok (.aload_n 0, 1) := by decide +kernel
theorem dL_law_218 : decode cL_law 218 = .ok (.iload_n 3, 1) := by decide +kernel
theorem dL_law_219 : decode cL_law 219 = .ok (.iconst 1, 1) := by decide +kernel
theorem dL_law_220 : decode cL_law 220 = .ok (.iadd, 1) := by decide +kernel
theorem dL_law_221 : decode cL_law 221 = .ok (.iaload, 1) := by decide +kernel
theorem dL_law_222 : decode cL_law 222 = .ok (.invokevirtual 31, 3) := by decide +kernel
theorem dL_law_225 : decode cL_law 225 = .ok (.if_icmp .eq 493, 3) := by decide +kernel
theorem dL_law_228 : decode cL_law 228 = .ok (.iconst 0, 1) := by decide +kernel
theorem dL_law_229 : decode cL_law 229 = .ok (.ireturn, 1) := by decide +kernel
theorem dL_law_230 : decode cL_law 230 = .ok (.aload_n 1, 1) := by decide +kernel
theorem dL_law_231 : decode cL_law 231 = .ok (.aload_n 0, 1) := by decide +kernel
theorem dL_law_232 : decode cL_law 232 = .ok (.iload_n 3, 1) := by decide +kernel
theorem dL_law_233 : decode cL_law 233 = .ok (.iconst 1, 1) := by decide +kernel
theorem dL_law_234 : decode cL_law 234 = .ok (.iadd, 1) := by decide +kernel
theorem dL_law_235 : decode cL_law 235 = .ok (.iaload, 1) := by decide +kernel
theorem dL_law_236 : decode cL_law 236 = .ok (.invokevirtual 32, 3) := by decide +kernel
theorem dL_law_239 : decode cL_law 239 = .ok (.aload_n 2, 1) := by decide +kernel
theorem dL_law_240 : decode cL_law 240 = .ok (.aload_n 0, 1) := by decide +kernel
theorem dL_law_241 : decode cL_law 241 = .ok (.iload_n 3, 1) := by decide +kernel
theorem dL_law_242 : decode cL_law 242 = .ok (.iconst 1, 1) := by decide +kernel
theorem dL_law_243 : decode cL_law 243 = .ok (.iadd, 1) := by decide +kernel
theorem dL_law_244 : decode cL_law 244 = .ok (.iaload, 1) := by decide +kernel
theorem dL_law_245 : decode cL_law 245 = .ok (.invokevirtual 35, 3) := by decide +kernel
theorem dL_law_248 : decode cL_law 248 = .ok (.if_icmp .eq 470, 3) := by decide +kernel
theorem dL_law_251 : decode cL_law 251 = .ok (.iconst 0, 1) := by decide +kernel
theorem dL_law_252 : decode cL_law 252 = .ok (.ireturn, 1) := by decide +kernel
theorem dL_law_253 : decode cL_law 253 = .ok (.aload_n 1, 1) := by decide +kernel
theorem dL_law_254 : decode cL_law 254 = .ok (.aload_n 0, 1) := by decide +kernel
theorem dL_law_255 : decode cL_law 255 = .ok (.iload_n 3, 1) := by decide +kernel
theorem dL_law_256 : decode cL_law 256 = .ok (.iconst 1, 1) := by decide +kernel
theorem dL_law_257 : decode cL_law 257 = .ok (.iadd, 1) := by decide +kernel
theorem dL_law_258 : decode cL_law 258 = .ok (.iaload, 1) := by decide +kernel
theorem dL_law_259 : decode cL_law 259 = .ok (.invokevirtual 36, 3) := by decide +kernel
theorem dL_law_262 : decode cL_law 262 = .ok (.aload_n 2, 1) := by decide +kernel
theorem dL_law_263 : decode cL_law 263 = .ok (.aload_n 0, 1) := by decide +kernel
theorem dL_law_264 : decode cL_law 264 = .ok (.iload_n 3, 1) := by decide +kernel
theorem dL_law_265 : decode cL_law 265 = .ok (.iconst 1, 1) := by decide +kernel
theorem dL_law_266 : decode cL_law 266 = .ok (.iadd, 1) := by decide +kernel
theorem dL_law_267 : decode cL_law 267 = .ok (.iaload, 1) := by decide +kernel
theorem dL_law_268 : decode cL_law 268 = .ok (.invokevirtual 39, 3) := by decide +kernel
theorem dL_law_271 : decode cL_law 271 = .ok (.if_icmp .eq 447, 3) := by decide +kernel
theorem dL_law_274 : decode cL_law 274 = .ok (.iconst 0, 1) := by decide +kernel
theorem dL_law_275 : decode cL_law 275 = .ok (.ireturn, 1) := by decide +kernel
theorem dL_law_276 : decode cL_law 276 = .ok (.aload_n 1, 1) := by decide +kernel
theorem dL_law_277 : decode cL_law 277 = .ok (.aload_n 0, 1) := by decide +kernel
theorem dL_law_278 : decode cL_law 278 = .ok (.iload_n 3, 1) := by decide +kernel
theorem dL_law_279 : decode cL_law 279 = .ok (.iconst 1, 1) := by decide +kernel
theorem dL_law_280 : decode cL_law 280 = .ok (.iadd, 1) := by decide +kernel
theorem dL_law_281 : decode cL_law 281 = .ok (.iaload, 1) := by decide +kernel
theorem dL_law_282 : decode cL_law 282 = .ok (.aload_n 0, 1) := by decide +kernel
theorem dL_law_283 : decode cL_law 283 = .ok (.iload_n 3, 1) := by decide +kernel
theorem dL_law_284 : decode cL_law 284 = .ok (.iconst 2, 1) := by decide +kernel
theorem dL_law_285 : decode cL_law 285 = .ok (.iadd, 1) := by decide +kernel
theorem dL_law_286 : decode cL_law 286 = .ok (.iaload, 1) := by decide +kernel
theorem dL_law_287 : decode cL_law 287 = .ok (.aload_n 0, 1) := by decide +kernel
theorem dL_law_288 : decode cL_law 288 = .ok (.iload_n 3, 1) := by decide +kernel
theorem dL_law_289 : decode cL_law 289 = .ok (.iconst 3, 1) := by decide +kernel
theorem dL_law_290 : decode cL_law 290 = .ok (.iadd, 1) := by decide +kernel
theorem dL_law_291 : decode cL_law 291 = .ok (.iaload, 1) := by decide +kernel
theorem dL_law_292 : decode cL_law 292 = .ok (.invokevirtual 40, 3) := by decide +kernel
theorem dL_law_295 : decode cL_law 295 = .ok (.aload_n 2, 1) := by decide +kernel
theorem dL_law_296 : decode cL_law 296 = .ok (.aload_n 0, 1) := by decide +kernel
theorem dL_law_297 : decode cL_law 297 = .ok (.iload_n 3, 1) := by decide +kernel
theorem dL_law_298 : decode cL_law 298 = .ok (.iconst 1, 1) := by decide +kernel
theorem dL_law_299 : decode cL_law 299 = .ok (.iadd, 1) := by decide +kernel
theorem dL_law_300 : decode cL_law 300 = .ok (.iaload, 1) := by decide +kernel
theorem dL_law_301 : decode cL_law 301 = .ok (.aload_n 0, 1) := by decide +kernel
theorem dL_law_302 : decode cL_law 302 = .ok (.iload_n 3, 1) := by decide +kernel
theorem dL_law_303 : decode cL_law 303 = .ok (.iconst 2, 1) := by decide +kernel
theorem dL_law_304 : decode cL_law 304 = .ok (.iadd, 1) := by decide +kernel
theorem dL_law_305 : decode cL_law 305 = .ok (.iaload, 1) := by decide +kernel
theorem dL_law_306 : decode cL_law 306 = .ok (.aload_n 0, 1) := by decide +kernel
theorem dL_law_307 : decode cL_law 307 = .ok (.iload_n 3, 1) := by decide +kernel
theorem dL_law_308 : decode cL_law 308 = .ok (.iconst 3, 1) := by decide +kernel
theorem dL_law_309 : decode cL_law 309 = .ok (.iadd, 1) := by decide +kernel
theorem dL_law_310 : decode cL_law 310 = .ok (.iaload, 1) := by decide +kernel
theorem dL_law_311 : decode cL_law 311 = .ok (.invokevirtual 44, 3) := by decide +kernel
theorem dL_law_314 : decode cL_law 314 = .ok (.if_icmp .eq 404, 3) := by decide +kernel
theorem dL_law_317 : decode cL_law 317 = .ok (.iconst 0, 1) := by decide +kernel
theorem dL_law_318 : decode cL_law 318 = .ok (.ireturn, 1) := by decide +kernel
theorem dL_law_319 : decode cL_law 319 = .ok (.aload_n 1, 1) := by decide +kernel
theorem dL_law_320 : decode cL_law 320 = .ok (.aload_n 0, 1) := by decide +kernel
theorem dL_law_321 : decode cL_law 321 = .ok (.iload_n 3, 1) := by decide +kernel
theorem dL_law_322 : decode cL_law 322 = .ok (.iconst 1, 1) := by decide +kernel
theorem dL_law_323 : decode cL_law 323 = .ok (.iadd, 1) := by decide +kernel
theorem dL_law_324 : decode cL_law 324 = .ok (.iaload, 1) := by decide +kernel
theorem dL_law_325 : decode cL_law 325 = .ok (.aload_n 0, 1) := by decide +kernel
theorem dL_law_326 : decode cL_law 326 = .ok (.iload_n 3, 1) := by decide +kernel
theorem dL_law_327 : decode cL_law 327 = .ok (.iconst 2, 1) := by decide +kernel
theorem dL_law_328 : decode cL_law 328 = .ok (.iadd, 1) := by decide +kernel
theorem dL_law_329 : decode cL_law 329 = .ok (.iaload, 1) := by decide +kernel
theorem dL_law_330 : decode cL_law 330 = .ok (.ifCond .eq 7, 3) := by decide +kernel
theorem dL_law_333 : decode cL_law 333 = .ok (.iconst 1, 1) := by decide +kernel
theorem dL_law_334 : decode cL_law 334 = .ok (.goto 4, 3) := by decide +kernel
theorem dL_law_337 : decode cL_law 337 = .ok (.iconst 0, 1) := by decide +kernel
theorem dL_law_338 : decode cL_law 338 = .ok (.invokevirtual 45, 3) := by decide +kernel
theorem dL_law_341 : decode cL_law 341 = .ok (.aload_n 2, 1) := by decide +kernel
theorem dL_law_342 : decode cL_law 342 = .ok (.aload_n 0, 1) := by decide +kernel
theorem dL_law_343 : decode cL_law 343 = .ok (.iload_n 3, 1) := by decide +kernel
theorem dL_law_344 : decode cL_law 344 = .ok (.iconst 1, 1) := by decide +kernel
theorem dL_law_345 : decode cL_law 345 = .ok (.iadd, 1) := by decide +kernel
theorem dL_law_346 : decode cL_law 346 = .ok (.iaload, 1) := by decide +kernel
theorem dL_law_347 : decode cL_law 347 = .ok (.aload_n 0, 1) := by decide +kernel
theorem dL_law_348 : decode cL_law 348 = .ok (.iload_n 3, 1) := by decide +kernel
theorem dL_law_349 : decode cL_law 349 = .ok (.iconst 2, 1) := by decide +kernel
theorem dL_law_350 : decode cL_law 350 = .ok (.iadd, 1) := by decide +kernel
theorem dL_law_351 : decode cL_law 351 = .ok (.iaload, 1) := by decide +kernel
theorem dL_law_352 : decode cL_law 352 = .ok (.ifCond .eq 7, 3) := by decide +kernel
theorem dL_law_355 : decode cL_law 355 = .ok (.iconst 1, 1) := by decide +kernel
theorem dL_law_356 : decode cL_law 356 = .ok (.goto 4, 3) := by decide +kernel
theorem dL_law_359 : decode cL_law 359 = .ok (.iconst 0, 1) := by decide +kernel
theorem dL_law_360 : decode cL_law 360 = .ok (.invokevirtual 49, 3) := by decide +kernel
theorem dL_law_363 : decode cL_law 363 = .ok (.if_icmp .eq 355, 3) := by decide +kernel
theorem dL_law_366 : decode cL_law 366 = .ok (.iconst 0, 1) := by decide +kernel
theorem dL_law_367 : decode cL_law 367 = .ok (.ireturn, 1) := by decide +kernel
theorem dL_law_368 : decode cL_law 368 = .ok (.aload_n 1, 1) := by decide +kernel
theorem dL_law_369 : decode cL_law 369 = .ok (.aload_n 0, 1) := by decide +kernel
theorem dL_law_370 : decode cL_law 370 = .ok (.iload_n 3, 1) := by decide +kernel
theorem dL_law_371 : decode cL_law 371 = .ok (.iconst 1, 1) := by decide +kernel
theorem dL_law_372 : decode cL_law 372 = .ok (.iadd, 1) := by decide +kernel
theorem dL_law_373 : decode cL_law 373 = .ok (.iaload, 1) := by decide +kernel
theorem dL_law_374 : decode cL_law 374 = .ok (.aload_n 0, 1) := by decide +kernel
theorem dL_law_375 : decode cL_law 375 = .ok (.iload_n 3, 1) := by decide +kernel
theorem dL_law_376 : decode cL_law 376 = .ok (.iconst 2, 1) := by decide +kernel
theorem dL_law_377 : decode cL_law 377 = .ok (.iadd, 1) := by decide +kernel
theorem dL_law_378 : decode cL_law 378 = .ok (.iaload, 1) := by decide +kernel
theorem dL_law_379 : decode cL_law 379 = .ok (.invokevirtual 50, 3) := by decide +kernel
theorem dL_law_382 : decode cL_law 382 = .ok (.aload_n 2, 1) := by decide +kernel
theorem dL_law_383 : decode cL_law 383 = .ok (.aload_n 0, 1) := by decide +kernel
theorem dL_law_384 : decode cL_law 384 = .ok (.iload_n 3, 1) := by decide +kernel
theorem dL_law_385 : decode cL_law 385 = .ok (.iconst 1, 1) := by decide +kernel
theorem dL_law_386 : decode cL_law 386 = .ok (.iadd, 1) := by decide +kernel
theorem dL_law_387 : decode cL_law 387 = .ok (.iaload, 1) := by decide +kernel
theorem dL_law_388 : decode cL_law 388 = .ok (.aload_n 0, 1) := by decide +kernel
theorem dL_law_389 : decode cL_law 389 = .ok (.iload_n 3, 1) := by decide +kernel
theorem dL_law_390 : decode cL_law 390 = .ok (.iconst 2, 1) := by decide +kernel
theorem dL_law_391 : decode cL_law 391 = .ok (.iadd, 1) := by decide +kernel
theorem dL_law_392 : decode cL_law 392 = .ok (.iaload, 1) := by decide +kernel
theorem dL_law_393 : decode cL_law 393 = .ok (.invokevirtual 54, 3) := by decide +kernel
theorem dL_law_396 : decode cL_law 396 = .ok (.if_icmp .eq 322, 3) := by decide +kernel
theorem dL_law_399 : decode cL_law 399 = .ok (.iconst 0, 1) := by decide +kernel
theorem dL_law_400 : decode cL_law 400 = .ok (.ireturn, 1) := by decide +kernel
theorem dL_law_401 : decode cL_law 401 = .ok (.aload_n 1, 1) := by decide +kernel
theorem dL_law_402 : decode cL_law 402 = .ok (.aload_n 0, 1) := by decide +kernel
theorem dL_law_403 : decode cL_law 403 = .ok (.iload_n 3, 1) := by decide +kernel
theorem dL_law_404 : decode cL_law 404 = .ok (.iconst 1, 1) := by decide +kernel
theorem dL_law_405 : decode cL_law 405 = .ok (.iadd, 1) := by decide +kernel
theorem dL_law_406 : decode cL_law 406 = .ok (.iaload, 1) := by decide +kernel
theorem dL_law_407 : decode cL_law 407 = .ok (.aload_n 0, 1) := by decide +kernel
theorem dL_law_408 : decode cL_law 408 = .ok (.iload_n 3, 1) := by decide +kernel
theorem dL_law_409 : decode cL_law 409 = .ok (.iconst 2, 1) := by decide +kernel
theorem dL_law_410 : decode cL_law 410 = .ok (.iadd, 1) := by decide +kernel
theorem dL_law_411 : decode cL_law 411 = .ok (.iaload, 1) := by decide +kernel
theorem dL_law_412 : decode cL_law 412 = .ok (.invokevirtual 55, 3) := by decide +kernel
theorem dL_law_415 : decode cL_law 415 = .ok (.aload_n 2, 1) := by decide +kernel
theorem dL_law_416 : decode cL_law 416 = .ok (.aload_n 0, 1) := by decide +kernel
theorem dL_law_417 : decode cL_law 417 = .ok (.iload_n 3, 1) := by decide +kernel
theorem dL_law_418 : decode cL_law 418 = .ok (.iconst 1, 1) := by decide +kernel
theorem dL_law_419 : decode cL_law 419 = .ok (.iadd, 1) := by decide +kernel
theorem dL_law_420 : decode cL_law 420 = .ok (.iaload, 1) := by decide +kernel
theorem dL_law_421 : decode cL_law 421 = .ok (.aload_n 0, 1) := by decide +kernel
theorem dL_law_422 : decode cL_law 422 = .ok (.iload_n 3, 1) := by decide +kernel
theorem dL_law_423 : decode cL_law 423 = .ok (.iconst 2, 1) := by decide +kernel
theorem dL_law_424 : decode cL_law 424 = .ok (.iadd, 1) := by decide +kernel
theorem dL_law_425 : decode cL_law 425 = .ok (.iaload, 1) := by decide +kernel
theorem dL_law_426 : decode cL_law 426 = .ok (.invokevirtual 58, 3) := by decide +kernel
theorem dL_law_429 : decode cL_law 429 = .ok (.if_icmp .eq 289, 3) := by decide +kernel
theorem dL_law_432 : decode cL_law 432 = .ok (.iconst 0, 1) := by decide +kernel
theorem dL_law_433 : decode cL_law 433 = .ok (.ireturn, 1) := by decide +kernel
theorem dL_law_434 : decode cL_law 434 = .ok (.aload_n 1, 1) := by decide +kernel
theorem dL_law_435 : decode cL_law 435 = .ok (.aload_n 0, 1) := by decide +kernel
theorem dL_law_436 : decode cL_law 436 = .ok (.iload_n 3, 1) := by decide +kernel
theorem dL_law_437 : decode cL_law 437 = .ok (.iconst 1, 1) := by decide +kernel
theorem dL_law_438 : decode cL_law 438 = .ok (.iadd, 1) := by decide +kernel
theorem dL_law_439 : decode cL_law 439 = .ok (.iaload, 1) := by decide +kernel
theorem dL_law_440 : decode cL_law 440 = .ok (.aload_n 0, 1) := by decide +kernel
theorem dL_law_441 : decode cL_law 441 = .ok (.iload_n 3, 1) := by decide +kernel
theorem dL_law_442 : decode cL_law 442 = .ok (.iconst 2, 1) := by decide +kernel
theorem dL_law_443 : decode cL_law 443 = .ok (.iadd, 1) := by decide +kernel
theorem dL_law_444 : decode cL_law 444 = .ok (.iaload, 1) := by decide +kernel
theorem dL_law_445 : decode cL_law 445 = .ok (.invokevirtual 59, 3) := by decide +kernel
theorem dL_law_448 : decode cL_law 448 = .ok (.aload_n 2, 1) := by decide +kernel
theorem dL_law_449 : decode cL_law 449 = .ok (.aload_n 0, 1) := by decide +kernel
theorem dL_law_450 : decode cL_law 450 = .ok (.iload_n 3, 1) := by decide +kernel
theorem dL_law_451 : decode cL_law 451 = .ok (.iconst 1, 1) := by decide +kernel
theorem dL_law_452 : decode cL_law 452 = .ok (.iadd, 1) := by decide +kernel
theorem dL_law_453 : decode cL_law 453 = .ok (.iaload, 1) := by decide +kernel
theorem dL_law_454 : decode cL_law 454 = .ok (.aload_n 0, 1) := by decide +kernel
theorem dL_law_455 : decode cL_law 455 = .ok (.iload_n 3, 1) := by decide +kernel
theorem dL_law_456 : decode cL_law 456 = .ok (.iconst 2, 1) := by decide +kernel
theorem dL_law_457 : decode cL_law 457 = .ok (.iadd, 1) := by decide +kernel
theorem dL_law_458 : decode cL_law 458 = .ok (.iaload, 1) := by decide +kernel
theorem dL_law_459 : decode cL_law 459 = .ok (.invokevirtual 62, 3) := by decide +kernel
theorem dL_law_462 : decode cL_law 462 = .ok (.if_icmp .eq 256, 3) := by decide +kernel
theorem dL_law_465 : decode cL_law 465 = .ok (.iconst 0, 1) := by decide +kernel
theorem dL_law_466 : decode cL_law 466 = .ok (.ireturn, 1) := by decide +kernel
theorem dL_law_467 : decode cL_law 467 = .ok (.aload_n 1, 1) := by decide +kernel
theorem dL_law_468 : decode cL_law 468 = .ok (.invokevirtual 63, 3) := by decide +kernel
theorem dL_law_471 : decode cL_law 471 = .ok (.aload_n 2, 1) := by decide +kernel
theorem dL_law_472 : decode cL_law 472 = .ok (.invokevirtual 66, 3) := by decide +kernel
theorem dL_law_475 : decode cL_law 475 = .ok (.if_icmp .eq 243, 3) := by decide +kernel
theorem dL_law_478 : decode cL_law 478 = .ok (.iconst 0, 1) := by decide +kernel
theorem dL_law_479 : decode cL_law 479 = .ok (.ireturn, 1) := by decide +kernel
theorem dL_law_480 : decode cL_law 480 = .ok (.aload_n 1, 1) := by decide +kernel
theorem dL_law_481 : decode cL_law 481 = .ok (.aload_n 0, 1) := by decide +kernel
theorem dL_law_482 : decode cL_law 482 = .ok (.iload_n 3, 1) := by decide +kernel
theorem dL_law_483 : decode cL_law 483 = .ok (.iconst 1, 1) := by decide +kernel
theorem dL_law_484 : decode cL_law 484 = .ok (.iadd, 1) := by decide +kernel
theorem dL_law_485 : decode cL_law 485 = .ok (.iaload, 1) := by decide +kernel
theorem dL_law_486 : decode cL_law 486 = .ok (.aload_n 0, 1) := by decide +kernel
theorem dL_law_487 : decode cL_law 487 = .ok (.iload_n 3, 1) := by decide +kernel
theorem dL_law_488 : decode cL_law 488 = .ok (.iconst 2, 1) := by decide +kernel
theorem dL_law_489 : decode cL_law 489 = .ok (.iadd, 1) := by decide +kernel
theorem dL_law_490 : decode cL_law 490 = .ok (.iaload, 1) := by decide +kernel
theorem dL_law_491 : decode cL_law 491 = .ok (.invokevirtual 67, 3) := by decide +kernel
theorem dL_law_494 : decode cL_law 494 = .ok (.aload_n 2, 1) := by decide +kernel
theorem dL_law_495 : decode cL_law 495 = .ok (.aload_n 0, 1) := by decide +kernel
theorem dL_law_496 : decode cL_law 496 = .ok (.iload_n 3, 1) := by decide +kernel
theorem dL_law_497 : decode cL_law 497 = .ok (.iconst 1, 1) := by decide +kernel
theorem dL_law_498 : decode cL_law 498 = .ok (.iadd, 1) := by decide +kernel
theorem dL_law_499 : decode cL_law 499 = .ok (.iaload, 1) := by decide +kernel
theorem dL_law_500 : decode cL_law 500 = .ok (.aload_n 0, 1) := by decide +kernel
theorem dL_law_501 : decode cL_law 501 = .ok (.iload_n 3, 1) := by decide +kernel
theorem dL_law_502 : decode cL_law 502 = .ok (.iconst 2, 1) := by decide +kernel
theorem dL_law_503 : decode cL_law 503 = .ok (.iadd, 1) := by decide +kernel
theorem dL_law_504 : decode cL_law 504 = .ok (.iaload, 1) := by decide +kernel
theorem dL_law_505 : decode cL_law 505 = .ok (.invokevirtual 70, 3) := by decide +kernel
theorem dL_law_508 : decode cL_law 508 = .ok (.if_icmp .eq 210, 3) := by decide +kernel
theorem dL_law_511 : decode cL_law 511 = .ok (.iconst 0, 1) := by decide +kernel
theorem dL_law_512 : decode cL_law 512 = .ok (.ireturn, 1) := by decide +kernel
theorem dL_law_513 : decode cL_law 513 = .ok (.aload_n 1, 1) := by decide +kernel
theorem dL_law_514 : decode cL_law 514 = .ok (.aload_n 0, 1) := by decide +kernel
theorem dL_law_515 : decode cL_law 515 = .ok (.iload_n 3, 1) := by decide +kernel
theorem dL_law_516 : decode cL_law 516 = .ok (.iconst 1, 1) := by decide +kernel
theorem dL_law_517 : decode cL_law 517 = .ok (.iadd, 1) := by decide +kernel
theorem dL_law_518 : decode cL_law 518 = .ok (.iaload, 1) := by decide +kernel
theorem dL_law_519 : decode cL_law 519 = .ok (.aload_n 0, 1) := by decide +kernel
theorem dL_law_520 : decode cL_law 520 = .ok (.iload_n 3, 1) := by decide +kernel
theorem dL_law_521 : decode cL_law 521 = .ok (.iconst 2, 1) := by decide +kernel
theorem dL_law_522 : decode cL_law 522 = .ok (.iadd, 1) := by decide +kernel
theorem dL_law_523 : decode cL_law 523 = .ok (.iaload, 1) := by decide +kernel
theorem dL_law_524 : decode cL_law 524 = .ok (.aload_n 0, 1) := by decide +kernel
theorem dL_law_525 : decode cL_law 525 = .ok (.iload_n 3, 1) := by decide +kernel
theorem dL_law_526 : decode cL_law 526 = .ok (.iconst 3, 1) := by decide +kernel
theorem dL_law_527 : decode cL_law 527 = .ok (.iadd, 1) := by decide +kernel
theorem dL_law_528 : decode cL_law 528 = .ok (.iaload, 1) := by decide +kernel
theorem dL_law_529 : decode cL_law 529 = .ok (.invokevirtual 71, 3) := by decide +kernel
theorem dL_law_532 : decode cL_law 532 = .ok (.aload_n 2, 1) := by decide +kernel
theorem dL_law_533 : decode cL_law 533 = .ok (.aload_n 0, 1) := by decide +kernel
theorem dL_law_534 : decode cL_law 534 = .ok (.iload_n 3, 1) := by decide +kernel
theorem dL_law_535 : decode cL_law 535 = .ok (.iconst 1, 1) := by decide +kernel
theorem dL_law_536 : decode cL_law 536 = .ok (.iadd, 1) := by decide +kernel
theorem dL_law_537 : decode cL_law 537 = .ok (.iaload, 1) := by decide +kernel
theorem dL_law_538 : decode cL_law 538 = .ok (.aload_n 0, 1) := by decide +kernel
theorem dL_law_539 : decode cL_law 539 = .ok (.iload_n 3, 1) := by decide +kernel
theorem dL_law_540 : decode cL_law 540 = .ok (.iconst 2, 1) := by decide +kernel
theorem dL_law_541 : decode cL_law 541 = .ok (.iadd, 1) := by decide +kernel
theorem dL_law_542 : decode cL_law 542 = .ok (.iaload, 1) := by decide +kernel
theorem dL_law_543 : decode cL_law 543 = .ok (.aload_n 0, 1) := by decide +kernel
theorem dL_law_544 : decode cL_law 544 = .ok (.iload_n 3, 1) := by decide +kernel
theorem dL_law_545 : decode cL_law 545 = .ok (.iconst 3, 1) := by decide +kernel
theorem dL_law_546 : decode cL_law 546 = .ok (.iadd, 1) := by decide +kernel
theorem dL_law_547 : decode cL_law 547 = .ok (.iaload, 1) := by decide +kernel
theorem dL_law_548 : decode cL_law 548 = .ok (.invokevirtual 74, 3) := by decide +kernel
theorem dL_law_551 : decode cL_law 551 = .ok (.if_icmp .eq 167, 3) := by decide +kernel
theorem dL_law_554 : decode cL_law 554 = .ok (.iconst 0, 1) := by decide +kernel
theorem dL_law_555 : decode cL_law 555 = .ok (.ireturn, 1) := by decide +kernel
theorem dL_law_556 : decode cL_law 556 = .ok (.aload_n 1, 1) := by decide +kernel
theorem dL_law_557 : decode cL_law 557 = .ok (.aload_n 0, 1) := by decide +kernel
theorem dL_law_558 : decode cL_law 558 = .ok (.iload_n 3, 1) := by decide +kernel
theorem dL_law_559 : decode cL_law 559 = .ok (.iconst 1, 1) := by decide +kernel
theorem dL_law_560 : decode cL_law 560 = .ok (.iadd, 1) := by decide +kernel
theorem dL_law_561 : decode cL_law 561 = .ok (.iaload, 1) := by decide +kernel
theorem dL_law_562 : decode cL_law 562 = .ok (.aload_n 0, 1) := by decide +kernel
theorem dL_law_563 : decode cL_law 563 = .ok (.iload_n 3, 1) := by decide +kernel
theorem dL_law_564 : decode cL_law 564 = .ok (.iconst 2, 1) := by decide +kernel
theorem dL_law_565 : decode cL_law 565 = .ok (.iadd, 1) := by decide +kernel
theorem dL_law_566 : decode cL_law 566 = .ok (.iaload, 1) := by decide +kernel
theorem dL_law_567 : decode cL_law 567 = .ok (.invokevirtual 75, 3) := by decide +kernel
theorem dL_law_570 : decode cL_law 570 = .ok (.aload_n 2, 1) := by decide +kernel
theorem dL_law_571 : decode cL_law 571 = .ok (.aload_n 0, 1) := by decide +kernel
theorem dL_law_572 : decode cL_law 572 = .ok (.iload_n 3, 1) := by decide +kernel
theorem dL_law_573 : decode cL_law 573 = .ok (.iconst 1, 1) := by decide +kernel
theorem dL_law_574 : decode cL_law 574 = .ok (.iadd, 1) := by decide +kernel
theorem dL_law_575 : decode cL_law 575 = .ok (.iaload, 1) := by decide +kernel
theorem dL_law_576 : decode cL_law 576 = .ok (.aload_n 0, 1) := by decide +kernel
theorem dL_law_577 : decode cL_law 577 = .ok (.iload_n 3, 1) := by decide +kernel
theorem dL_law_578 : decode cL_law 578 = .ok (.iconst 2, 1) := by decide +kernel
theorem dL_law_579 : decode cL_law 579 = .ok (.iadd, 1) := by decide +kernel
theorem dL_law_580 : decode cL_law 580 = .ok (.iaload, 1) := by decide +kernel
theorem dL_law_581 : decode cL_law 581 = .ok (.invokevirtual 78, 3) := by decide +kernel
theorem dL_law_584 : decode cL_law 584 = .ok (.if_icmp .eq 134, 3) := by decide +kernel
theorem dL_law_587 : decode cL_law 587 = .ok (.iconst 0, 1) := by decide +kernel
theorem dL_law_588 : decode cL_law 588 = .ok (.ireturn, 1) := by decide +kernel
theorem dL_law_589 : decode cL_law 589 = .ok (.aload_n 1, 1) := by decide +kernel
theorem dL_law_590 : decode cL_law 590 = .ok (.aload_n 0, 1) := by decide +kernel
theorem dL_law_591 : decode cL_law 591 = .ok (.iload_n 3, 1) := by decide +kernel
theorem dL_law_592 : decode cL_law 592 = .ok (.iconst 1, 1) := by decide +kernel
theorem dL_law_593 : decode cL_law 593 = .ok (.iadd, 1) := by decide +kernel
theorem dL_law_594 : decode cL_law 594 = .ok (.iaload, 1) := by decide +kernel
theorem dL_law_595 : decode cL_law 595 = .ok (.invokevirtual 79, 3) := by decide +kernel
theorem dL_law_598 : decode cL_law 598 = .ok (.aload_n 2, 1) := by decide +kernel
theorem dL_law_599 : decode cL_law 599 = .ok (.aload_n 0, 1) := by decide +kernel
theorem dL_law_600 : decode cL_law 600 = .ok (.iload_n 3, 1) := by decide +kernel
theorem dL_law_601 : decode cL_law 601 = .ok (.iconst 1, 1) := by decide +kernel
theorem dL_law_602 : decode cL_law 602 = .ok (.iadd, 1) := by decide +kernel
theorem dL_law_603 : decode cL_law 603 = .ok (.iaload, 1) := by decide +kernel
theorem dL_law_604 : decode cL_law 604 = .ok (.invokevirtual 82, 3) := by decide +kernel
theorem dL_law_607 : decode cL_law 607 = .ok (.if_icmp .eq 111, 3) := by decide +kernel
theorem dL_law_610 : decode cL_law 610 = .ok (.iconst 0, 1) := by decide +kernel
theorem dL_law_611 : decode cL_law 611 = .ok (.ireturn, 1) := by decide +kernel
theorem dL_law_612 : decode cL_law 612 = .ok (.aload_n 1, 1) := by decide +kernel
theorem dL_law_613 : decode cL_law 613 = .ok (.aload_n 0, 1) := by decide +kernel
theorem dL_law_614 : decode cL_law 614 = .ok (.iload_n 3, 1) := by decide +kernel
theorem dL_law_615 : decode cL_law 615 = .ok (.iconst 1, 1) := by decide +kernel
theorem dL_law_616 : decode cL_law 616 = .ok (.iadd, 1) := by decide +kernel
theorem dL_law_617 : decode cL_law 617 = .ok (.iaload, 1) := by decide +kernel
theorem dL_law_618 : decode cL_law 618 = .ok (.invokevirtual 83, 3) := by decide +kernel
theorem dL_law_621 : decode cL_law 621 = .ok (.aload_n 2, 1) := by decide +kernel
theorem dL_law_622 : decode cL_law 622 = .ok (.aload_n 0, 1) := by decide +kernel
theorem dL_law_623 : decode cL_law 623 = .ok (.iload_n 3, 1) := by decide +kernel
theorem dL_law_624 : decode cL_law 624 = .ok (.iconst 1, 1) := by decide +kernel
theorem dL_law_625 : decode cL_law 625 = .ok (.iadd, 1) := by decide +kernel
theorem dL_law_626 : decode cL_law 626 = .ok (.iaload, 1) := by decide +kernel
theorem dL_law_627 : decode cL_law 627 = .ok (.invokevirtual 86, 3) := by decide +kernel
theorem dL_law_630 : decode cL_law 630 = .ok (.if_icmp .eq 88, 3) := by decide +kernel
theorem dL_law_633 : decode cL_law 633 = .ok (.iconst 0, 1) := by decide +kernel
theorem dL_law_634 : decode cL_law 634 = .ok (.ireturn, 1) := by decide +kernel
theorem dL_law_635 : decode cL_law 635 = .ok (.aload_n 1, 1) := by decide +kernel
theorem dL_law_636 : decode cL_law 636 = .ok (.aload_n 0, 1) := by decide +kernel
theorem dL_law_637 : decode cL_law 637 = .ok (.iload_n 3, 1) := by decide +kernel
theorem dL_law_638 : decode cL_law 638 = .ok (.iconst 1, 1) := by decide +kernel
theorem dL_law_639 : decode cL_law 639 = .ok (.iadd, 1) := by decide +kernel
theorem dL_law_640 : decode cL_law 640 = .ok (.iaload, 1) := by decide +kernel
theorem dL_law_641 : decode cL_law 641 = .ok (.invokevirtual 87, 3) := by decide +kernel
theorem dL_law_644 : decode cL_law 644 = .ok (.aload_n 2, 1) := by decide +kernel
theorem dL_law_645 : decode cL_law 645 = .ok (.aload_n 0, 1) := by decide +kernel
theorem dL_law_646 : decode cL_law 646 = .ok (.iload_n 3, 1) := by decide +kernel
theorem dL_law_647 : decode cL_law 647 = .ok (.iconst 1, 1) := by decide +kernel
theorem dL_law_648 : decode cL_law 648 = .ok (.iadd, 1) := by decide +kernel
theorem dL_law_649 : decode cL_law 649 = .ok (.iaload, 1) := by decide +kernel
theorem dL_law_650 : decode cL_law 650 = .ok (.invokevirtual 90, 3) := by decide +kernel
theorem dL_law_653 : decode cL_law 653 = .ok (.if_icmp .eq 65, 3) := by decide +kernel
theorem dL_law_656 : decode cL_law 656 = .ok (.iconst 0, 1) := by decide +kernel
theorem dL_law_657 : decode cL_law 657 = .ok (.ireturn, 1) := by decide +kernel
theorem dL_law_658 : decode cL_law 658 = .ok (.aload_n 1, 1) := by decide +kernel
theorem dL_law_659 : decode cL_law 659 = .ok (.aload_n 0, 1) := by decide +kernel
theorem dL_law_660 : decode cL_law 660 = .ok (.iload_n 3, 1) := by decide +kernel
theorem dL_law_661 : decode cL_law 661 = .ok (.iconst 1, 1) := by decide +kernel
theorem dL_law_662 : decode cL_law 662 = .ok (.iadd, 1) := by decide +kernel
theorem dL_law_663 : decode cL_law 663 = .ok (.iaload, 1) := by decide +kernel
theorem dL_law_664 : decode cL_law 664 = .ok (.invokevirtual 91, 3) := by decide +kernel
theorem dL_law_667 : decode cL_law 667 = .ok (.aload_n 2, 1) := by decide +kernel
theorem dL_law_668 : decode cL_law 668 = .ok (.aload_n 0, 1) := by decide +kernel
theorem dL_law_669 : decode cL_law 669 = .ok (.iload_n 3, 1) := by decide +kernel
theorem dL_law_670 : decode cL_law 670 = .ok (.iconst 1, 1) := by decide +kernel
theorem dL_law_671 : decode cL_law 671 = .ok (.iadd, 1) := by decide +kernel
theorem dL_law_672 : decode cL_law 672 = .ok (.iaload, 1) := by decide +kernel
theorem dL_law_673 : decode cL_law 673 = .ok (.invokevirtual 94, 3) := by decide +kernel
theorem dL_law_676 : decode cL_law 676 = .ok (.if_icmp .eq 42, 3) := by decide +kernel
theorem dL_law_679 : decode cL_law 679 = .ok (.iconst 0, 1) := by decide +kernel
theorem dL_law_680 : decode cL_law 680 = .ok (.ireturn, 1) := by decide +kernel
theorem dL_law_681 : decode cL_law 681 = .ok (.aload_n 1, 1) := by decide +kernel
theorem dL_law_682 : decode cL_law 682 = .ok (.aload_n 0, 1) := by decide +kernel
theorem dL_law_683 : decode cL_law 683 = .ok (.iload_n 3, 1) := by decide +kernel
theorem dL_law_684 : decode cL_law 684 = .ok (.iconst 1, 1) := by decide +kernel
theorem dL_law_685 : decode cL_law 685 = .ok (.iadd, 1) := by decide +kernel
theorem dL_law_686 : decode cL_law 686 = .ok (.iaload, 1) := by decide +kernel
theorem dL_law_687 : decode cL_law 687 = .ok (.invokevirtual 95, 3) := by decide +kernel
theorem dL_law_690 : decode cL_law 690 = .ok (.aload_n 2, 1) := by decide +kernel
theorem dL_law_691 : decode cL_law 691 = .ok (.aload_n 0, 1) := by decide +kernel
theorem dL_law_692 : decode cL_law 692 = .ok (.iload_n 3, 1) := by decide +kernel
theorem dL_law_693 : decode cL_law 693 = .ok (.iconst 1, 1) := by decide +kernel
theorem dL_law_694 : decode cL_law 694 = .ok (.iadd, 1) := by decide +kernel
theorem dL_law_695 : decode cL_law 695 = .ok (.iaload, 1) := by decide +kernel
theorem dL_law_696 : decode cL_law 696 = .ok (.invokevirtual 98, 3) := by decide +kernel
theorem dL_law_699 : decode cL_law 699 = .ok (.if_icmp .eq 19, 3) := by decide +kernel
theorem dL_law_702 : decode cL_law 702 = .ok (.iconst 0, 1) := by decide +kernel
theorem dL_law_703 : decode cL_law 703 = .ok (.ireturn, 1) := by decide +kernel
theorem dL_law_704 : decode cL_law 704 = .ok (.aload_n 1, 1) := by decide +kernel
theorem dL_law_705 : decode cL_law 705 = .ok (.invokevirtual 99, 3) := by decide +kernel
theorem dL_law_708 : decode cL_law 708 = .ok (.aload_n 2, 1) := by decide +kernel
theorem dL_law_709 : decode cL_law 709 = .ok (.invokevirtual 103, 3) := by decide +kernel
theorem dL_law_712 : decode cL_law 712 = .ok (.lcmp, 1) := by decide +kernel
theorem dL_law_713 : decode cL_law 713 = .ok (.ifCond .eq 5, 3) := by decide +kernel
theorem dL_law_716 : decode cL_law 716 = .ok (.iconst 0, 1) := by decide +kernel
theorem dL_law_717 : decode cL_law 717 = .ok (.ireturn, 1) := by decide +kernel
theorem dL_law_718 : decode cL_law 718 = .ok (.iinc 3 4, 3) := by decide +kernel
theorem dL_law_721 : decode cL_law 721 = .ok (.goto (-703), 3) := by decide +kernel
theorem dL_law_724 : decode cL_law 724 = .ok (.iconst 1, 1) := by decide +kernel
theorem dL_law_725 : decode cL_law 725 = .ok (.ireturn, 1) := by decide +kernel
end
section
abbrev St : Type := (Nat) × (Nat) × (Nat) × (Nat → Nat) × (Nat → Nat) × (Nat → Nat → Int32) × (Nat → Nat → Option Nat) × (Nat → Nat → Int64) × (Nat → Nat → Int32) × (Nat → Nat → Option Nat) × (Nat → Nat)
def hpN (σ : St) : Nat := σ.1
def hpC (σ : St) : Nat := σ.2.1
def hpS (σ : St) : Nat := σ.2.2.1
def hpK (σ : St) (a : Nat) : Nat := σ.2.2.2.1 a
def hpL (σ : St) (a : Nat) : Nat := σ.2.2.2.2.1 a
def hpI (σ : St) (f a : Nat) : Int32 := σ.2.2.2.2.2.1 f a
def hpR (σ : St) (f a : Nat) : Option Nat := σ.2.2.2.2.2.2.1 f a
def hpJ (σ : St) (f a : Nat) : Int64 := σ.2.2.2.2.2.2.2.1 f a
def hpA (σ : St) (a j : Nat) : Int32 := σ.2.2.2.2.2.2.2.2.1 a j
def hpB (σ : St) (a j : Nat) : Option Nat := σ.2.2.2.2.2.2.2.2.2.1 a j
def hpG (σ : St) (i : Nat) : Nat := σ.2.2.2.2.2.2.2.2.2.2 i
def up2 {α : Type} (F : Nat → Nat → α) (f a : Nat) (v : α) : Nat → Nat → α := fun f1 a1 => if f1 = f ∧ a1 = a then v else F f1 a1
def stI (σ : St) (f a : Nat) (v : Int32) : St := (σ.1, σ.2.1, σ.2.2.1, σ.2.2.2.1, σ.2.2.2.2.1, up2 σ.2.2.2.2.2.1 f a v, σ.2.2.2.2.2.2.1, σ.2.2.2.2.2.2.2.1, σ.2.2.2.2.2.2.2.2.1, σ.2.2.2.2.2.2.2.2.2.1, σ.2.2.2.2.2.2.2.2.2.2)
def stR (σ : St) (f a : Nat) (v : Option Nat) : St := (σ.1, σ.2.1, σ.2.2.1, σ.2.2.2.1, σ.2.2.2.2.1, σ.2.2.2.2.2.1, up2 σ.2.2.2.2.2.2.1 f a v, σ.2.2.2.2.2.2.2.1, σ.2.2.2.2.2.2.2.2.1, σ.2.2.2.2.2.2.2.2.2.1, σ.2.2.2.2.2.2.2.2.2.2)
def stJ (σ : St) (f a : Nat) (v : Int64) : St := (σ.1, σ.2.1, σ.2.2.1, σ.2.2.2.1, σ.2.2.2.2.1, σ.2.2.2.2.2.1, σ.2.2.2.2.2.2.1, up2 σ.2.2.2.2.2.2.2.1 f a v, σ.2.2.2.2.2.2.2.2.1, σ.2.2.2.2.2.2.2.2.2.1, σ.2.2.2.2.2.2.2.2.2.2)
def stA (σ : St) (a j : Nat) (v : Int32) : St := (σ.1, σ.2.1, σ.2.2.1, σ.2.2.2.1, σ.2.2.2.2.1, σ.2.2.2.2.2.1, σ.2.2.2.2.2.2.1, σ.2.2.2.2.2.2.2.1, up2 σ.2.2.2.2.2.2.2.2.1 a j v, σ.2.2.2.2.2.2.2.2.2.1, σ.2.2.2.2.2.2.2.2.2.2)
def stB (σ : St) (a j : Nat) (v : Option Nat) : St := (σ.1, σ.2.1, σ.2.2.1, σ.2.2.2.1, σ.2.2.2.2.1, σ.2.2.2.2.2.1, σ.2.2.2.2.2.2.1, σ.2.2.2.2.2.2.2.1, σ.2.2.2.2.2.2.2.2.1, up2 σ.2.2.2.2.2.2.2.2.2.1 a j v, σ.2.2.2.2.2.2.2.2.2.2)
/-- a new cell at hpN σ: its kind, its length, its slots; all in it is 0 or null -/
def nw (σ : St) (k len sz : Nat) : St := (σ.1 + 1, σ.2.1 + 1, σ.2.2.1 + sz, fun a => if a = σ.1 then k else σ.2.2.2.1 a, fun a => if a = σ.1 then len else σ.2.2.2.2.1 a, fun f a => if a = σ.1 then 0 else σ.2.2.2.2.2.1 f a, fun f a => if a = σ.1 then none else σ.2.2.2.2.2.2.1 f a, fun f a => if a = σ.1 then 0 else σ.2.2.2.2.2.2.2.1 f a, fun a j => if a = σ.1 then 0 else σ.2.2.2.2.2.2.2.2.1 a j, fun a j => if a = σ.1 then none else σ.2.2.2.2.2.2.2.2.2.1 a j, σ.2.2.2.2.2.2.2.2.2.2)
theorem hpN_stI (σ : St) (f0 a0 : Nat) (v : Int32) : hpN (stI σ f0 a0 v) = hpN σ := rfl
theorem hpC_stI (σ : St) (f0 a0 : Nat) (v : Int32) : hpC (stI σ f0 a0 v) = hpC σ := rfl
theorem hpS_stI (σ : St) (f0 a0 : Nat) (v : Int32) : hpS (stI σ f0 a0 v) = hpS σ := rfl
theorem hpK_stI (σ : St) (f0 a0 : Nat) (v : Int32) (a : Nat) : hpK (stI σ f0 a0 v) a = hpK σ a := rfl
theorem hpL_stI (σ : St) (f0 a0 : Nat) (v : Int32) (a : Nat) : hpL (stI σ f0 a0 v) a = hpL σ a := rfl
theorem hpI_stI (σ : St) (f0 a0 : Nat) (v : Int32) (f a : Nat) : hpI (stI σ f0 a0 v) f a = if f = f0 ∧ a = a0 then v else hpI σ f a := rfl
theorem hpR_stI (σ : St) (f0 a0 : Nat) (v : Int32) (f a : Nat) : hpR (stI σ f0 a0 v) f a = hpR σ f a := rfl
theorem hpJ_stI (σ : St) (f0 a0 : Nat) (v : Int32) (f a : Nat) : hpJ (stI σ f0 a0 v) f a = hpJ σ f a := rfl
theorem hpA_stI (σ : St) (f0 a0 : Nat) (v : Int32) (a j : Nat) : hpA (stI σ f0 a0 v) a j = hpA σ a j := rfl
theorem hpB_stI (σ : St) (f0 a0 : Nat) (v : Int32) (a j : Nat) : hpB (stI σ f0 a0 v) a j = hpB σ a j := rfl
theorem hpG_stI (σ : St) (f0 a0 : Nat) (v : Int32) (i : Nat) : hpG (stI σ f0 a0 v) i = hpG σ i := rfl
theorem hpN_stR (σ : St) (f0 a0 : Nat) (v : Option Nat) : hpN (stR σ f0 a0 v) = hpN σ := rfl
theorem hpC_stR (σ : St) (f0 a0 : Nat) (v : Option Nat) : hpC (stR σ f0 a0 v) = hpC σ := rfl
theorem hpS_stR (σ : St) (f0 a0 : Nat) (v : Option Nat) : hpS (stR σ f0 a0 v) = hpS σ := rfl
theorem hpK_stR (σ : St) (f0 a0 : Nat) (v : Option Nat) (a : Nat) : hpK (stR σ f0 a0 v) a = hpK σ a := rfl
theorem hpL_stR (σ : St) (f0 a0 : Nat) (v : Option Nat) (a : Nat) : hpL (stR σ f0 a0 v) a = hpL σ a := rfl
theorem hpI_stR (σ : St) (f0 a0 : Nat) (v : Option Nat) (f a : Nat) : hpI (stR σ f0 a0 v) f a = hpI σ f a := rfl
theorem hpR_stR (σ : St) (f0 a0 : Nat) (v : Option Nat) (f a : Nat) : hpR (stR σ f0 a0 v) f a = if f = f0 ∧ a = a0 then v else hpR σ f a := rfl
theorem hpJ_stR (σ : St) (f0 a0 : Nat) (v : Option Nat) (f a : Nat) : hpJ (stR σ f0 a0 v) f a = hpJ σ f a := rfl
theorem hpA_stR (σ : St) (f0 a0 : Nat) (v : Option Nat) (a j : Nat) : hpA (stR σ f0 a0 v) a j = hpA σ a j := rfl
theorem hpB_stR (σ : St) (f0 a0 : Nat) (v : Option Nat) (a j : Nat) : hpB (stR σ f0 a0 v) a j = hpB σ a j := rfl
theorem hpG_stR (σ : St) (f0 a0 : Nat) (v : Option Nat) (i : Nat) : hpG (stR σ f0 a0 v) i = hpG σ i := rfl
theorem hpN_stJ (σ : St) (f0 a0 : Nat) (v : Int64) : hpN (stJ σ f0 a0 v) = hpN σ := rfl
theorem hpC_stJ (σ : St) (f0 a0 : Nat) (v : Int64) : hpC (stJ σ f0 a0 v) = hpC σ := rfl
theorem hpS_stJ (σ : St) (f0 a0 : Nat) (v : Int64) : hpS (stJ σ f0 a0 v) = hpS σ := rfl
theorem hpK_stJ (σ : St) (f0 a0 : Nat) (v : Int64) (a : Nat) : hpK (stJ σ f0 a0 v) a = hpK σ a := rfl
theorem hpL_stJ (σ : St) (f0 a0 : Nat) (v : Int64) (a : Nat) : hpL (stJ σ f0 a0 v) a = hpL σ a := rfl
theorem hpI_stJ (σ : St) (f0 a0 : Nat) (v : Int64) (f a : Nat) : hpI (stJ σ f0 a0 v) f a = hpI σ f a := rfl
theorem hpR_stJ (σ : St) (f0 a0 : Nat) (v : Int64) (f a : Nat) : hpR (stJ σ f0 a0 v) f a = hpR σ f a := rfl
theorem hpJ_stJ (σ : St) (f0 a0 : Nat) (v : Int64) (f a : Nat) : hpJ (stJ σ f0 a0 v) f a = if f = f0 ∧ a = a0 then v else hpJ σ f a := rfl
theorem hpA_stJ (σ : St) (f0 a0 : Nat) (v : Int64) (a j : Nat) : hpA (stJ σ f0 a0 v) a j = hpA σ a j := rfl
theorem hpB_stJ (σ : St) (f0 a0 : Nat) (v : Int64) (a j : Nat) : hpB (stJ σ f0 a0 v) a j = hpB σ a j := rfl
theorem hpG_stJ (σ : St) (f0 a0 : Nat) (v : Int64) (i : Nat) : hpG (stJ σ f0 a0 v) i = hpG σ i := rfl
theorem hpN_stA (σ : St) (a0 j0 : Nat) (v : Int32) : hpN (stA σ a0 j0 v) = hpN σ := rfl
theorem hpC_stA (σ : St) (a0 j0 : Nat) (v : Int32) : hpC (stA σ a0 j0 v) = hpC σ := rfl
theorem hpS_stA (σ : St) (a0 j0 : Nat) (v : Int32) : hpS (stA σ a0 j0 v) = hpS σ := rfl
theorem hpK_stA (σ : St) (a0 j0 : Nat) (v : Int32) (a : Nat) : hpK (stA σ a0 j0 v) a = hpK σ a := rfl
theorem hpL_stA (σ : St) (a0 j0 : Nat) (v : Int32) (a : Nat) : hpL (stA σ a0 j0 v) a = hpL σ a := rfl
theorem hpI_stA (σ : St) (a0 j0 : Nat) (v : Int32) (f a : Nat) : hpI (stA σ a0 j0 v) f a = hpI σ f a := rfl
theorem hpR_stA (σ : St) (a0 j0 : Nat) (v : Int32) (f a : Nat) : hpR (stA σ a0 j0 v) f a = hpR σ f a := rfl
theorem hpJ_stA (σ : St) (a0 j0 : Nat) (v : Int32) (f a : Nat) : hpJ (stA σ a0 j0 v) f a = hpJ σ f a := rfl
theorem hpA_stA (σ : St) (a0 j0 : Nat) (v : Int32) (a j : Nat) : hpA (stA σ a0 j0 v) a j = if a = a0 ∧ j = j0 then v else hpA σ a j := rfl
theorem hpB_stA (σ : St) (a0 j0 : Nat) (v : Int32) (a j : Nat) : hpB (stA σ a0 j0 v) a j = hpB σ a j := rfl
theorem hpG_stA (σ : St) (a0 j0 : Nat) (v : Int32) (i : Nat) : hpG (stA σ a0 j0 v) i = hpG σ i := rfl
theorem hpN_stB (σ : St) (a0 j0 : Nat) (v : Option Nat) : hpN (stB σ a0 j0 v) = hpN σ := rfl
theorem hpC_stB (σ : St) (a0 j0 : Nat) (v : Option Nat) : hpC (stB σ a0 j0 v) = hpC σ := rfl
theorem hpS_stB (σ : St) (a0 j0 : Nat) (v : Option Nat) : hpS (stB σ a0 j0 v) = hpS σ := rfl
theorem hpK_stB (σ : St) (a0 j0 : Nat) (v : Option Nat) (a : Nat) : hpK (stB σ a0 j0 v) a = hpK σ a := rfl
theorem hpL_stB (σ : St) (a0 j0 : Nat) (v : Option Nat) (a : Nat) : hpL (stB σ a0 j0 v) a = hpL σ a := rfl
theorem hpI_stB (σ : St) (a0 j0 : Nat) (v : Option Nat) (f a : Nat) : hpI (stB σ a0 j0 v) f a = hpI σ f a := rfl
theorem hpR_stB (σ : St) (a0 j0 : Nat) (v : Option Nat) (f a : Nat) : hpR (stB σ a0 j0 v) f a = hpR σ f a := rfl
theorem hpJ_stB (σ : St) (a0 j0 : Nat) (v : Option Nat) (f a : Nat) : hpJ (stB σ a0 j0 v) f a = hpJ σ f a := rfl
theorem hpA_stB (σ : St) (a0 j0 : Nat) (v : Option Nat) (a j : Nat) : hpA (stB σ a0 j0 v) a j = hpA σ a j := rfl
theorem hpB_stB (σ : St) (a0 j0 : Nat) (v : Option Nat) (a j : Nat) : hpB (stB σ a0 j0 v) a j = if a = a0 ∧ j = j0 then v else hpB σ a j := rfl
theorem hpG_stB (σ : St) (a0 j0 : Nat) (v : Option Nat) (i : Nat) : hpG (stB σ a0 j0 v) i = hpG σ i := rfl
theorem hpN_nw (σ : St) (k len sz : Nat) : hpN (nw σ k len sz) = hpN σ + 1 := rfl
theorem hpC_nw (σ : St) (k len sz : Nat) : hpC (nw σ k len sz) = hpC σ + 1 := rfl
theorem hpS_nw (σ : St) (k len sz : Nat) : hpS (nw σ k len sz) = hpS σ + sz := rfl
theorem hpK_nw (σ : St) (k len sz : Nat) (a : Nat) : hpK (nw σ k len sz) a = if a = hpN σ then k else hpK σ a := rfl
theorem hpL_nw (σ : St) (k len sz : Nat) (a : Nat) : hpL (nw σ k len sz) a = if a = hpN σ then len else hpL σ a := rfl
theorem hpI_nw (σ : St) (k len sz : Nat) (f a : Nat) : hpI (nw σ k len sz) f a = if a = hpN σ then 0 else hpI σ f a := rfl
theorem hpR_nw (σ : St) (k len sz : Nat) (f a : Nat) : hpR (nw σ k len sz) f a = if a = hpN σ then none else hpR σ f a := rfl
theorem hpJ_nw (σ : St) (k len sz : Nat) (f a : Nat) : hpJ (nw σ k len sz) f a = if a = hpN σ then 0 else hpJ σ f a := rfl
theorem hpA_nw (σ : St) (k len sz : Nat) (a j : Nat) : hpA (nw σ k len sz) a j = if a = hpN σ then 0 else hpA σ a j := rfl
theorem hpB_nw (σ : St) (k len sz : Nat) (a j : Nat) : hpB (nw σ k len sz) a j = if a = hpN σ then none else hpB σ a j := rfl
theorem hpG_nw (σ : St) (k len sz : Nat) (i : Nat) : hpG (nw σ k len sz) i = hpG σ i := rfl
theorem hsx :
  (∀ (σ : St) (f0 a0 : Nat) (v : Int32), hpN (stI σ f0 a0 v) = hpN σ) ∧
  (∀ (σ : St) (f0 a0 : Nat) (v : Int32), hpC (stI σ f0 a0 v) = hpC σ) ∧
  (∀ (σ : St) (f0 a0 : Nat) (v : Int32), hpS (stI σ f0 a0 v) = hpS σ) ∧
  (∀ (σ : St) (f0 a0 : Nat) (v : Int32) (a : Nat), hpK (stI σ f0 a0 v) a = hpK σ a) ∧
  (∀ (σ : St) (f0 a0 : Nat) (v : Int32) (a : Nat), hpL (stI σ f0 a0 v) a = hpL σ a) ∧
  (∀ (σ : St) (f0 a0 : Nat) (v : Int32) (f a : Nat), hpI (stI σ f0 a0 v) f a = if f = f0 ∧ a = a0 then v else hpI σ f a) ∧
  (∀ (σ : St) (f0 a0 : Nat) (v : Int32) (f a : Nat), hpR (stI σ f0 a0 v) f a = hpR σ f a) ∧
  (∀ (σ : St) (f0 a0 : Nat) (v : Int32) (f a : Nat), hpJ (stI σ f0 a0 v) f a = hpJ σ f a) ∧
  (∀ (σ : St) (f0 a0 : Nat) (v : Int32) (a j : Nat), hpA (stI σ f0 a0 v) a j = hpA σ a j) ∧
  (∀ (σ : St) (f0 a0 : Nat) (v : Int32) (a j : Nat), hpB (stI σ f0 a0 v) a j = hpB σ a j) ∧
  (∀ (σ : St) (f0 a0 : Nat) (v : Int32) (i : Nat), hpG (stI σ f0 a0 v) i = hpG σ i) ∧
  (∀ (σ : St) (f0 a0 : Nat) (v : Option Nat), hpN (stR σ f0 a0 v) = hpN σ) ∧
  (∀ (σ : St) (f0 a0 : Nat) (v : Option Nat), hpC (stR σ f0 a0 v) = hpC σ) ∧
  (∀ (σ : St) (f0 a0 : Nat) (v : Option Nat), hpS (stR σ f0 a0 v) = hpS σ) ∧
  (∀ (σ : St) (f0 a0 : Nat) (v : Option Nat) (a : Nat), hpK (stR σ f0 a0 v) a = hpK σ a) ∧
  (∀ (σ : St) (f0 a0 : Nat) (v : Option Nat) (a : Nat), hpL (stR σ f0 a0 v) a = hpL σ a) ∧
  (∀ (σ : St) (f0 a0 : Nat) (v : Option Nat) (f a : Nat), hpI (stR σ f0 a0 v) f a = hpI σ f a) ∧
  (∀ (σ : St) (f0 a0 : Nat) (v : Option Nat) (f a : Nat), hpR (stR σ f0 a0 v) f a = if f = f0 ∧ a = a0 then v else hpR σ f a) ∧
  (∀ (σ : St) (f0 a0 : Nat) (v : Option Nat) (f a : Nat), hpJ (stR σ f0 a0 v) f a = hpJ σ f a) ∧
  (∀ (σ : St) (f0 a0 : Nat) (v : Option Nat) (a j : Nat), hpA (stR σ f0 a0 v) a j = hpA σ a j) ∧
  (∀ (σ : St) (f0 a0 : Nat) (v : Option Nat) (a j : Nat), hpB (stR σ f0 a0 v) a j = hpB σ a j) ∧
  (∀ (σ : St) (f0 a0 : Nat) (v : Option Nat) (i : Nat), hpG (stR σ f0 a0 v) i = hpG σ i) ∧
  (∀ (σ : St) (f0 a0 : Nat) (v : Int64), hpN (stJ σ f0 a0 v) = hpN σ) ∧
  (∀ (σ : St) (f0 a0 : Nat) (v : Int64), hpC (stJ σ f0 a0 v) = hpC σ) ∧
  (∀ (σ : St) (f0 a0 : Nat) (v : Int64), hpS (stJ σ f0 a0 v) = hpS σ) ∧
  (∀ (σ : St) (f0 a0 : Nat) (v : Int64) (a : Nat), hpK (stJ σ f0 a0 v) a = hpK σ a) ∧
  (∀ (σ : St) (f0 a0 : Nat) (v : Int64) (a : Nat), hpL (stJ σ f0 a0 v) a = hpL σ a) ∧
  (∀ (σ : St) (f0 a0 : Nat) (v : Int64) (f a : Nat), hpI (stJ σ f0 a0 v) f a = hpI σ f a) ∧
  (∀ (σ : St) (f0 a0 : Nat) (v : Int64) (f a : Nat), hpR (stJ σ f0 a0 v) f a = hpR σ f a) ∧
  (∀ (σ : St) (f0 a0 : Nat) (v : Int64) (f a : Nat), hpJ (stJ σ f0 a0 v) f a = if f = f0 ∧ a = a0 then v else hpJ σ f a) ∧
  (∀ (σ : St) (f0 a0 : Nat) (v : Int64) (a j : Nat), hpA (stJ σ f0 a0 v) a j = hpA σ a j) ∧
  (∀ (σ : St) (f0 a0 : Nat) (v : Int64) (a j : Nat), hpB (stJ σ f0 a0 v) a j = hpB σ a j) ∧
  (∀ (σ : St) (f0 a0 : Nat) (v : Int64) (i : Nat), hpG (stJ σ f0 a0 v) i = hpG σ i) ∧
  (∀ (σ : St) (a0 j0 : Nat) (v : Int32), hpN (stA σ a0 j0 v) = hpN σ) ∧
  (∀ (σ : St) (a0 j0 : Nat) (v : Int32), hpC (stA σ a0 j0 v) = hpC σ) ∧
  (∀ (σ : St) (a0 j0 : Nat) (v : Int32), hpS (stA σ a0 j0 v) = hpS σ) ∧
  (∀ (σ : St) (a0 j0 : Nat) (v : Int32) (a : Nat), hpK (stA σ a0 j0 v) a = hpK σ a) ∧
  (∀ (σ : St) (a0 j0 : Nat) (v : Int32) (a : Nat), hpL (stA σ a0 j0 v) a = hpL σ a) ∧
  (∀ (σ : St) (a0 j0 : Nat) (v : Int32) (f a : Nat), hpI (stA σ a0 j0 v) f a = hpI σ f a) ∧
  (∀ (σ : St) (a0 j0 : Nat) (v : Int32) (f a : Nat), hpR (stA σ a0 j0 v) f a = hpR σ f a) ∧
  (∀ (σ : St) (a0 j0 : Nat) (v : Int32) (f a : Nat), hpJ (stA σ a0 j0 v) f a = hpJ σ f a) ∧
  (∀ (σ : St) (a0 j0 : Nat) (v : Int32) (a j : Nat), hpA (stA σ a0 j0 v) a j = if a = a0 ∧ j = j0 then v else hpA σ a j) ∧
  (∀ (σ : St) (a0 j0 : Nat) (v : Int32) (a j : Nat), hpB (stA σ a0 j0 v) a j = hpB σ a j) ∧
  (∀ (σ : St) (a0 j0 : Nat) (v : Int32) (i : Nat), hpG (stA σ a0 j0 v) i = hpG σ i) ∧
  (∀ (σ : St) (a0 j0 : Nat) (v : Option Nat), hpN (stB σ a0 j0 v) = hpN σ) ∧
  (∀ (σ : St) (a0 j0 : Nat) (v : Option Nat), hpC (stB σ a0 j0 v) = hpC σ) ∧
  (∀ (σ : St) (a0 j0 : Nat) (v : Option Nat), hpS (stB σ a0 j0 v) = hpS σ) ∧
  (∀ (σ : St) (a0 j0 : Nat) (v : Option Nat) (a : Nat), hpK (stB σ a0 j0 v) a = hpK σ a) ∧
  (∀ (σ : St) (a0 j0 : Nat) (v : Option Nat) (a : Nat), hpL (stB σ a0 j0 v) a = hpL σ a) ∧
  (∀ (σ : St) (a0 j0 : Nat) (v : Option Nat) (f a : Nat), hpI (stB σ a0 j0 v) f a = hpI σ f a) ∧
  (∀ (σ : St) (a0 j0 : Nat) (v : Option Nat) (f a : Nat), hpR (stB σ a0 j0 v) f a = hpR σ f a) ∧
  (∀ (σ : St) (a0 j0 : Nat) (v : Option Nat) (f a : Nat), hpJ (stB σ a0 j0 v) f a = hpJ σ f a) ∧
  (∀ (σ : St) (a0 j0 : Nat) (v : Option Nat) (a j : Nat), hpA (stB σ a0 j0 v) a j = hpA σ a j) ∧
  (∀ (σ : St) (a0 j0 : Nat) (v : Option Nat) (a j : Nat), hpB (stB σ a0 j0 v) a j = if a = a0 ∧ j = j0 then v else hpB σ a j) ∧
  (∀ (σ : St) (a0 j0 : Nat) (v : Option Nat) (i : Nat), hpG (stB σ a0 j0 v) i = hpG σ i) ∧
  (∀ (σ : St) (k len sz : Nat), hpN (nw σ k len sz) = hpN σ + 1) ∧
  (∀ (σ : St) (k len sz : Nat), hpC (nw σ k len sz) = hpC σ + 1) ∧
  (∀ (σ : St) (k len sz : Nat), hpS (nw σ k len sz) = hpS σ + sz) ∧
  (∀ (σ : St) (k len sz : Nat) (a : Nat), hpK (nw σ k len sz) a = if a = hpN σ then k else hpK σ a) ∧
  (∀ (σ : St) (k len sz : Nat) (a : Nat), hpL (nw σ k len sz) a = if a = hpN σ then len else hpL σ a) ∧
  (∀ (σ : St) (k len sz : Nat) (f a : Nat), hpI (nw σ k len sz) f a = if a = hpN σ then 0 else hpI σ f a) ∧
  (∀ (σ : St) (k len sz : Nat) (f a : Nat), hpR (nw σ k len sz) f a = if a = hpN σ then none else hpR σ f a) ∧
  (∀ (σ : St) (k len sz : Nat) (f a : Nat), hpJ (nw σ k len sz) f a = if a = hpN σ then 0 else hpJ σ f a) ∧
  (∀ (σ : St) (k len sz : Nat) (a j : Nat), hpA (nw σ k len sz) a j = if a = hpN σ then 0 else hpA σ a j) ∧
  (∀ (σ : St) (k len sz : Nat) (a j : Nat), hpB (nw σ k len sz) a j = if a = hpN σ then none else hpB σ a j) ∧
  (∀ (σ : St) (k len sz : Nat) (i : Nat), hpG (nw σ k len sz) i = hpG σ i) :=
  ⟨hpN_stI, hpC_stI, hpS_stI, hpK_stI, hpL_stI, hpI_stI, hpR_stI, hpJ_stI, hpA_stI, hpB_stI, hpG_stI, hpN_stR, hpC_stR, hpS_stR, hpK_stR, hpL_stR, hpI_stR, hpR_stR, hpJ_stR, hpA_stR, hpB_stR, hpG_stR, hpN_stJ, hpC_stJ, hpS_stJ, hpK_stJ, hpL_stJ, hpI_stJ, hpR_stJ, hpJ_stJ, hpA_stJ, hpB_stJ, hpG_stJ, hpN_stA, hpC_stA, hpS_stA, hpK_stA, hpL_stA, hpI_stA, hpR_stA, hpJ_stA, hpA_stA, hpB_stA, hpG_stA, hpN_stB, hpC_stB, hpS_stB, hpK_stB, hpL_stB, hpI_stB, hpR_stB, hpJ_stB, hpA_stB, hpB_stB, hpG_stB, hpN_nw, hpC_nw, hpS_nw, hpK_nw, hpL_nw, hpI_nw, hpR_nw, hpJ_nw, hpA_nw, hpB_nw, hpG_nw⟩

def NX : Nat := 600000
def SX : Nat := 7302250
/-- guards: a reference that isn't null and points to a cell of kind k; an int array (a static one has kind 20); an index within; a reference that is null or points to kind k; a boolean -/
def dn (σ : St) (k : Nat) (x : Option Nat) : Option Nat := x.bind fun a => if hpK σ a = k then some a else none
def dnA (σ : St) (x : Option Nat) : Option Nat := x.bind fun a => if hpK σ a = 13 ∨ hpK σ a = 20 then some a else none
def ix (i : Int32) (n : Nat) : Option Nat := if i < 0 ∨ n ≤ i.toNatClampNeg then none else some i.toNatClampNeg
def dm (σ : St) (k : Nat) (x : Option Nat) : Option (Option Nat) := match x with
  | none => some none
  | some a => if hpK σ a = k then some (some a) else none
def gz (v : Int32) : Option Int32 := if v = 0 ∨ v = 1 then some v else none
def nz (v : Int32) : Option Int32 := if v = 0 then none else some v
def nflT : List Nat := [2, 9, 4, 5, 5, 3, 9, 3, 2, 5, 5, 26]
def nfl (k : Nat) : Nat := nflT.getD k 0
def nwO (σ : St) (k : Nat) : Option St := if hpC σ + 1 ≤ NX ∧ hpS σ + nfl k ≤ SX then some (nw σ k 0 (nfl k)) else none
def nwA (σ : St) (k : Nat) (n : Int32) : Option St := if n < 0 ∨ 1000000 < n.toNatClampNeg ∨ ¬ (hpC σ + 1 ≤ NX ∧ hpS σ + n.toNatClampNeg ≤ SX) then none else some (nw σ k n.toNatClampNeg n.toNatClampNeg)
theorem dn_some {σ : St} {k : Nat} {x : Option Nat} {a : Nat} (h : dn σ k x = some a) : x = some a ∧ hpK σ a = k := by
  cases x with
  | none => simp [dn] at h
  | some b =>
    simp only [dn, Option.bind_some] at h
    split at h
    · cases h; exact ⟨rfl, by assumption⟩
    · cases h
theorem dn_eq {σ : St} {k a : Nat} (h : hpK σ a = k) : dn σ k (some a) = some a := by simp [dn, h]
theorem dnA_some {σ : St} {x : Option Nat} {a : Nat} (h : dnA σ x = some a) : x = some a ∧ (hpK σ a = 13 ∨ hpK σ a = 20) := by
  cases x with
  | none => simp [dnA] at h
  | some b =>
    simp only [dnA, Option.bind_some] at h
    split at h
    · cases h; exact ⟨rfl, by assumption⟩
    · cases h
theorem dnA_eq {σ : St} {a : Nat} (h : hpK σ a = 13) : dnA σ (some a) = some a := by simp [dnA, h]
theorem dnA_eq20 {σ : St} {a : Nat} (h : hpK σ a = 20) : dnA σ (some a) = some a := by simp [dnA, h]
theorem ix_some {i : Int32} {n j : Nat} (h : ix i n = some j) : ¬ (i < 0 ∨ n ≤ i.toNatClampNeg) ∧ j = i.toNatClampNeg := by
  unfold ix at h
  split at h
  · cases h
  · rename_i h1
    cases h
    exact ⟨h1, rfl⟩
theorem ix_nI {n N : Nat} (h : n < N) (hN : N < 2 ^ 31) : ix (nI n) N = some n := by
  unfold ix
  rw [if_neg (nI_in h hN), nI_clamp (by omega)]
theorem gz_some {v w : Int32} (h : gz v = some w) : w = v ∧ (v = 0 ∨ v = 1) := by
  unfold gz at h
  split at h
  · cases h; exact ⟨rfl, by assumption⟩
  · cases h
theorem gz_0 : gz 0 = some 0 := rfl
theorem gz_1 : gz 1 = some 1 := rfl
theorem nz_some {v w : Int32} (h : nz v = some w) : w = v ∧ ¬ v = 0 := by
  unfold nz at h
  split at h
  · cases h
  · cases h; exact ⟨rfl, by assumption⟩
theorem dm_some {σ : St} {k : Nat} {x y : Option Nat} (h : dm σ k x = some y) : y = x ∧ ∀ a, x = some a → hpK σ a = k := by
  cases x with
  | none => cases h; exact ⟨rfl, fun a h => by cases h⟩
  | some b =>
    simp only [dm] at h
    split at h
    · cases h; exact ⟨rfl, fun a h => by cases h; assumption⟩
    · cases h
theorem nwO_some {σ σ1 : St} {k : Nat} (h : nwO σ k = some σ1) : (hpC σ + 1 ≤ NX ∧ hpS σ + nfl k ≤ SX) ∧ σ1 = nw σ k 0 (nfl k) := by
  unfold nwO at h
  split at h
  · cases h; exact ⟨by assumption, rfl⟩
  · cases h
theorem nwA_some {σ σ1 : St} {k : Nat} {n : Int32} (h : nwA σ k n = some σ1) : ¬ n < 0 ∧ n.toNatClampNeg ≤ 1000000 ∧ (hpC σ + 1 ≤ NX ∧ hpS σ + n.toNatClampNeg ≤ SX) ∧ σ1 = nw σ k n.toNatClampNeg n.toNatClampNeg := by
  unfold nwA at h
  split at h
  · cases h
  · rename_i h1
    cases h
    have h2 := not_or.mp h1
    have h3 := not_or.mp h2.2
    exact ⟨h2.1, Nat.not_lt.mp h3.1, Decidable.not_not.mp h3.2, rfl⟩
theorem bind_ok {α β : Type} {o : Option α} {F : α → Option β} {b : β} (h : o.bind F = some b) : ∃ a, o = some a ∧ F a = some b := Option.bind_eq_some_iff.mp h
theorem bind_if_some {α β : Type} {c : Prop} [Decidable c] (x y : α) (F : α → Option β) : (if c then some x else some y).bind F = F (if c then x else y) := by split <;> rfl
/-- FU: fuel for loops -/
def FU : Nat := 1000000
end
section
-- the table's words that keep, the frame of the global world, the heap that a state stands for, and Ok: from here the method comes to its end
def TBL : List Cond := lw_tbl.filter goodWord
theorem tb_in (i : Nat) {w : Cond} (h : lw_tbl[i]? = some w) (g : goodWord w = true) : w ∈ TBL := List.mem_filter.mpr ⟨List.mem_of_getElem? h, g⟩
theorem tb_lw {w : Cond} (h : w ∈ TBL) : w ∈ lw_tbl := (List.mem_filter.mp h).1
theorem tb_good {ws : List Cond} (h : ∀ w ∈ ws, w ∈ TBL) : GoodIn TBL ws := fun w hw => ⟨h w hw, good_of_word (List.mem_filter.mp (h w hw)).2⟩
/-- base, the heap at the law's entry, the classes' numbers and slots, the array classes by kind, the static arrays, the statics' addresses, the strings' addresses -/
abbrev GE : Type := Nat × Heap × va_G × (Nat → ClassId) × (Nat → Option (Nat × (Nat → Int32))) × (Nat → Nat) × (Nat → Nat) × (Nat → Nat)
def gB (Γ : GE) : Nat := Γ.1
def gH (Γ : GE) : Heap := Γ.2.1
def gD (Γ : GE) : va_G := Γ.2.2.1
def gA (Γ : GE) : Nat → ClassId := Γ.2.2.2.1
def gN (Γ : GE) : Nat → Option (Nat × (Nat → Int32)) := Γ.2.2.2.2.1
def gT (Γ : GE) : Nat → Nat := Γ.2.2.2.2.2.1
def gK (Γ : GE) : Nat → Nat := Γ.2.2.2.2.2.2.1
def gV (Γ : GE) : Nat → Nat := Γ.2.2.2.2.2.2.2
def aty (k : Nat) : FieldType := match k with
  | 12 => .byte
  | 13 => .int
  | 14 => .object RX2
  | 15 => .object RX3
  | 16 => .object RX4
  | 17 => .object RX5
  | 18 => .object RX6
  | _ => .object RX7
/-- the class of the elements of an array of kind k -/
def ecl (k : Nat) : Nat := match k with
  | 14 => 2
  | 15 => 3
  | 16 => 4
  | 17 => 5
  | 18 => 6
  | _ => 7
def tysG (Γ : GE) : List (ClassId × FieldType) := (List.range 8).map fun i => (gA Γ (12 + i), aty (12 + i))
theorem tysG_at (Γ : GE) {k : Nat} (h1 : 12 ≤ k) (h2 : k < 20) : (tysG Γ)[k - 12]? = some (gA Γ k, aty k) := by
  have h : k - 12 < 8 := by omega
  simp only [tysG, List.getElem?_map, List.getElem?_range h, Option.map_some]
  rw [show 12 + (k - 12) = k by omega]
def strLen : List Nat := [6, 5, 7, 5, 0]
def strByt : List (List Int32) := [[115, 113, 117, 97, 114, 101], [119, 101, 100, 103, 101], [100, 105, 97, 109, 111, 110, 100], [103, 108, 97, 115, 115], []]
def strTx : List String := ["square", "wedge", "diamond", "glass", ""]
def stNm : List String := ["AT_FIRST", "LEAST", "GREATEST"]
def NMl : List (String × Nat × MethodName) := [(RX10, 11, yX8_init), (RX5, 28, yX10_element), (RX10, 32, yX1_init), (RX8, 26, yX10_isLetter), (RX8, 37, yX10_shapeName), (RX8, 47, yX9_init), (RX1, 244, yX7_init), (RX1, 240, yX3_init), (RX1, 236, yX6_init), (RX9, 33, yX10_element), (RX1, 245, yX4_init), (RX1, 67, yX10_oneIf), (RX1, 100, yX10_aim)]
/-- what the tables say, and what lies below base, for the whole run -/
def Glob (Γ : GE) (U : State) : Prop :=
  va_K (gD Γ) vwCl (tysG Γ) U ∧
  (∀ q ∈ NMl, va_Nw (.methodLinkNest q.1 q.2.1 q.2.2 RX10) U) ∧
  va_Nw (.fieldLinkNest RX5 25 RX10 "AT_FIRST" "[I" RX10) U ∧
  (∀ k, 14 ≤ k → k < 20 → ∀ C, aty k = .object C → va_AO C U) ∧
  (∀ i nm, stNm[i]? = some nm → va_Z RX10 nm "[I" (.ref (gT Γ i)) (fun q => gB Γ ≤ q) U (gH Γ)) ∧
  (∀ a n f, gN Γ a = some (n, f) → a < gB Γ ∧ ∃ cell : Cell, (gH Γ)[a]? = some cell ∧ U.isArrayOf cell .int ∧ cell.vm ≠ .unknown ∧ cell.slots.size = n ∧ ∀ j, j < n → cell.slots[j]? = some (.int (f j))) ∧
  (vk_S 5 strLen strByt (gK Γ) (gV Γ) (fun q => gB Γ ≤ q) U (gH Γ) ∧ (∀ i tx, strTx[i]? = some tx → vk_R RX10 (305 + 2 * i) tx (gK Γ i) U)) ∧
  (va_Z "java/lang/String" "COMPACT_STRINGS" "Z" (.int 1) (fun q => gB Γ ≤ q) U (gH Γ) ∧ ∃ v : Value, (v = .null ∨ ∃ t, v = .ref t) ∧ va_Z "jdk/internal/util/Preconditions" "SIOOBE_FORMATTER" "Ljava/util/function/BiFunction;" v (fun q => gB Γ ≤ q) U (gH Γ))
theorem Glob.warm {Γ : GE} {s U : State} (hW : s.WarmedH U.vm) (h : Glob Γ s) : Glob Γ U := by
  obtain ⟨h1, h2, h3, h4, h5, h6, ⟨h7, h8⟩, h9, v, hv, h10⟩ := h
  have hal := hW.alike
  refine ⟨va_K.moved hal h1, fun q hq => va_Nw.warmM hW (h2 q hq), va_Nw.warmF hW h3, fun k a b C hC => va_AO.moved hal (h4 k a b C hC), fun i nm hi => va_Z.moved hal (h5 i nm hi), fun a n f hf => ?_, ⟨vk_S.moved hal h7, fun i tx hi => vk_R.warm hW (h8 i tx hi)⟩, va_Z.moved hal h9, v, hv, va_Z.moved hal h10⟩
  obtain ⟨hb, cell, a1, a2, a3⟩ := h6 a n f hf
  exact ⟨hb, cell, a1, State.isArrayOf_alike hal a2, a3⟩
/-- the type of a field: 0 int or boolean, 1 a reference, 2 long -/
def ftab : List (List Nat) := [[1, 0], [1, 1, 1, 1, 0, 0, 0, 0, 0], [1, 0, 0, 0], [0, 0, 0, 0, 0], [0, 0, 0, 0, 0], [1, 1, 0], [0, 0, 0, 0, 0, 0, 0, 0, 0], [0, 0, 0], [1, 0], [1, 1, 0, 0, 0], [1, 1, 1, 1, 1], [1, 1, 0, 1, 0, 0, 0, 1, 0, 1, 1, 1, 1, 1, 1, 1, 1, 0, 1, 1, 1, 1, 0, 0, 0, 2]]
def fty (ci k : Nat) : Nat := (ftab.getD ci []).getD k 0
def oV (σ : St) (ci a k : Nat) : Value := match fty ci k with
  | 0 => .int (hpI σ (32 * ci + k) a)
  | 1 => va_rf (hpR σ (32 * ci + k) a)
  | _ => .long (hpJ σ (32 * ci + k) a)
def CellAt (Γ : GE) (σ : St) (H : Heap) (a : Nat) : Prop :=
  (hpK σ a < 12 → t_OB a ((gD Γ).1 (hpK σ a)) (nfl (hpK σ a)) ((gD Γ).2 (hpK σ a)) H (oV σ (hpK σ a) a)) ∧
  ((hpK σ a = 12 ∨ hpK σ a = 13) → H[a]? = some (arrV (gA Γ (hpK σ a)) (hpL σ a) (fun j => .int (hpA σ a j)))) ∧
  (14 ≤ hpK σ a → H[a]? = some (arrV (gA Γ (hpK σ a)) (hpL σ a) (fun j => va_rf (hpB σ a j))))
def hsz (b : Nat) (H : Heap) : Nat := ((H.toList.drop b).map (fun c => c.slots.size)).sum
/-- the heap H is what the state σ says: its cells from base on, and the static arrays -/
def RepH (Γ : GE) (σ : St) (H : Heap) : Prop :=
  H.size = hpN σ ∧ hpN σ = gB Γ + hpC σ ∧ (∀ a, a < gB Γ → H[a]? = (gH Γ)[a]?) ∧ hsz (gB Γ) H = hpS σ ∧
  (∀ a, hpK σ a < 20 → gB Γ ≤ a ∧ a < hpN σ ∧ CellAt Γ σ H a) ∧
  (∀ a, hpK σ a = 20 → ∃ f, gN Γ a = some (hpL σ a, f) ∧ ∀ j, j < hpL σ a → hpA σ a j = f j) ∧ (∀ i, hpG σ i = gT Γ i) ∧ hpC σ ≤ NX ∧ hpS σ ≤ SX
theorem hsz_same {b : Nat} {H H1 : Heap} (hz : H1.size = H.size) (hq : ∀ q : Nat, (H1[q]?).map (fun c => c.slots.size) = (H[q]?).map (fun c => c.slots.size)) : hsz b H1 = hsz b H := by
  have h : H1.toList.map (fun c => c.slots.size) = H.toList.map (fun c => c.slots.size) := by
    apply List.ext_getElem?
    intro q
    rw [List.getElem?_map, List.getElem?_map, Array.getElem?_toList, Array.getElem?_toList]
    exact hq q
  unfold hsz
  rw [List.map_drop, List.map_drop, h]
theorem hsz_push {b : Nat} {H : Heap} (hb : b ≤ H.size) (x : Cell) : hsz b (H.push x) = hsz b H + x.slots.size := by
  unfold hsz
  rw [Array.toList_push, List.drop_append_of_le_length (by simpa using hb), List.map_append, List.sum_append]
  simp
theorem hsz_split {b n : Nat} {H0 H : Heap} (hb : b ≤ n) (hn : H0.size = n) (hz : n ≤ H.size) (hq : ∀ q : Nat, q < n → (H[q]?).map (fun c => c.slots.size) = (H0[q]?).map (fun c => c.slots.size)) : hsz b H = hsz b H0 + hsz n H := by
  have key : ∀ (l0 l : List Nat), l0.length = n → n ≤ l.length → (∀ q, q < n → l[q]? = l0[q]?) → (l.drop b).sum = (l0.drop b).sum + (l.drop n).sum := by
    intro l0 l h0 h1 h2
    have e : l = l0 ++ l.drop n := by
      apply List.ext_getElem?
      intro q
      by_cases hqn : q < n
      · rw [List.getElem?_append_left (by omega), h2 q hqn]
      · rw [List.getElem?_append_right (by omega), List.getElem?_drop, h0]
        congr 1
        omega
    conv => lhs; rw [e]
    rw [List.drop_append_of_le_length (by omega), List.sum_append]
  unfold hsz
  rw [List.map_drop, List.map_drop, List.map_drop]
  refine key _ _ (by simp [hn]) (by simpa using hz) (fun q h => ?_)
  rw [List.getElem?_map, List.getElem?_map, Array.getElem?_toList, Array.getElem?_toList]
  exact hq q h
section OK1
variable {p : Program} {l : Launch} {e : Env} {R : Room} {s : State} {m : MethodId} {args : Array Value} {below : List Frame} {meth : Method} {c : Code} {H : Heap} {locs : List Loc} {cells slots : Nat} {Q : State → Prop} {Γ : GE} {σ0 σ : St}
/-- the counters are what the heap says -/
theorem st_tight {T : State} (h0 : RepH Γ σ0 s.heap) (hR : RepH Γ σ H) (hT : T.heap = H) (X : Stand p l e R s m args below meth c T locs cells slots) : Stand p l e R s m args below meth c T locs (hpC σ - hpC σ0) (hpS σ - hpS σ0) ∧ hpC σ0 ≤ hpC σ ∧ hpS σ0 ≤ hpS σ := by
  obtain ⟨a1, a2, a3, a4, a5, a6⟩ := X.same
  have e1 : (T.setVm s.vm).heap = H := hT
  have hz0 := h0.1
  have hz := hR.1
  have hb0 := h0.2.1
  have hb := hR.2.1
  rw [e1] at a2 a3 a4 a5 a6
  have hsp := hsz_split (b := gB Γ) (n := s.heap.size) (H0 := s.heap) (H := H) (by omega) rfl (by omega) (fun q hq => by
    obtain ⟨cq, hcq⟩ : ∃ cq, s.heap[q]? = some cq := ⟨s.heap[q], by simp [hq]⟩
    obtain ⟨c', hc', -, hsl, -⟩ := a6 q cq hcq
    rw [hc', hcq]
    simp [hsl])
  have hs0 := h0.2.2.2.1
  have hs := hR.2.2.2.1
  refine ⟨{ X with same := ⟨a1, by rw [e1]; exact a2, by rw [e1]; omega, by rw [e1]; exact a4, ?_, by rw [e1]; exact a6⟩ }, by omega, by omega⟩
  rw [e1]
  show hsz s.heap.size H ≤ _
  omega
/-- from the frame at pc, with these locals and this stack, over any heap that is what σ says, the method comes to Q -/
def Ok (p : Program) (l : Launch) (e : Env) (R : Room) (s : State) (m : MethodId) (args : Array Value) (below : List Frame) (meth : Method) (c : Code) (Γ : GE) (nL : Nat) (Q : State → Prop) (pc : Nat) (L : List (Nat × Value)) (st : List Value) (σ : St) : Prop :=
  ∀ (H : Heap) (locs : List Loc) (ls : Array Slot), RepH Γ σ H → (∀ q ∈ locs, gB Γ ≤ q.base) → lv_has ls nL L → W p l e R s m args below meth c H locs R.cells R.slots Q (F0 m pc ls st)
/-- the fixed things of a method's walk -/
def Cx (p : Program) (R : Room) (s : State) (m : MethodId) (args : Array Value) (c : Code) (Γ : GE) (nL : Nat) (σ0 : St) (cc : ByteArray) (own : String) : Prop :=
  p.tables.exec = Jvm.exec ∧ c.code = cc ∧ c.maxLocals = nL ∧ s.vm.findClass own = some m.cls ∧ (∀ w ∈ TBL, w.before args s = true) ∧ Glob Γ s ∧ RepH Γ σ0 s.heap ∧ (R.cells = NX - hpC σ0 ∧ R.slots = SX - hpS σ0)
end OK1
section OKL
variable {p : Program} {l : Launch} {e : Env} {R : Room} {s : State} {m : MethodId} {args : Array Value} {below : List Frame} {meth : Method} {c : Code} {Q : State → Prop} {Γ : GE} {σ0 σ : St} {nL pc : Nat} {cc : ByteArray} {own : String} {L L' : List (Nat × Value)} {st : List Value}
theorem k_iload_n (cx : Cx p R s m args c Γ nL σ0 cc own) {k : Fin 4} {i : Nat} (n : Nat) {x : Int32} (hd : decode cc pc = .ok (.iload_n k, 1)) (hi : (k : Nat) = i) (hl : L[n]? = some (i, .int x)) (h : Ok p l e R s m args below meth c Γ nL Q (pc + 1) L (.int x :: st) σ) : Ok p l e R s m args below meth c Γ nL Q pc L st σ :=
  fun H locs ls hR hL hls => lv_iload_n cx.1 cx.2.1 hd hi (lv_at hls n hl) (h H locs ls hR hL hls)
theorem k_iload (cx : Cx p R s m args c Γ nL σ0 cc own) {i : Nat} (n : Nat) {x : Int32} (hd : decode cc pc = .ok (.iload i, 2)) (hl : L[n]? = some (i, .int x)) (h : Ok p l e R s m args below meth c Γ nL Q (pc + 2) L (.int x :: st) σ) : Ok p l e R s m args below meth c Γ nL Q pc L st σ :=
  fun H locs ls hR hL hls => lv_iload cx.1 cx.2.1 hd (lv_at hls n hl) (h H locs ls hR hL hls)
theorem k_lload_n (cx : Cx p R s m args c Γ nL σ0 cc own) {k : Fin 4} {i : Nat} (n : Nat) {x : Int64} (hd : decode cc pc = .ok (.lload_n k, 1)) (hi : (k : Nat) = i) (hl : L[n]? = some (i, .long x)) (h : Ok p l e R s m args below meth c Γ nL Q (pc + 1) L (.long x :: st) σ) : Ok p l e R s m args below meth c Γ nL Q pc L st σ :=
  fun H locs ls hR hL hls => lv_lload_n cx.1 cx.2.1 hd hi (lv_at hls n hl) (h H locs ls hR hL hls)
theorem k_aload_n (cx : Cx p R s m args c Γ nL σ0 cc own) {k : Fin 4} {i : Nat} (n : Nat) {x : Option Nat} (hd : decode cc pc = .ok (.aload_n k, 1)) (hi : (k : Nat) = i) (hl : L[n]? = some (i, va_rf x)) (h : Ok p l e R s m args below meth c Γ nL Q (pc + 1) L (va_rf x :: st) σ) : Ok p l e R s m args below meth c Γ nL Q pc L st σ := by
  intro H locs ls hR hL hls
  cases x with
  | none => exact lv_aload_nN cx.1 cx.2.1 hd hi (lv_at hls n hl) (h H locs ls hR hL hls)
  | some a => exact lv_aload_n cx.1 cx.2.1 hd hi (lv_at hls n hl) (h H locs ls hR hL hls)
theorem k_aload (cx : Cx p R s m args c Γ nL σ0 cc own) {i : Nat} (n : Nat) {x : Option Nat} (hd : decode cc pc = .ok (.aload i, 2)) (hl : L[n]? = some (i, va_rf x)) (h : Ok p l e R s m args below meth c Γ nL Q (pc + 2) L (va_rf x :: st) σ) : Ok p l e R s m args below meth c Γ nL Q pc L st σ := by
  intro H locs ls hR hL hls
  cases x with
  | none => exact lv_aloadN cx.1 cx.2.1 hd (lv_at hls n hl) (h H locs ls hR hL hls)
  | some a => exact lv_aload cx.1 cx.2.1 hd (lv_at hls n hl) (h H locs ls hR hL hls)
theorem k_istore_n (cx : Cx p R s m args c Γ nL σ0 cc own) {k : Fin 4} {i : Nat} (L' : List (Nat × Value)) {x : Int32} (hd : decode cc pc = .ok (.istore_n k, 1)) (hi : (k : Nat) = i) (hn : i < nL) (hl : (i, Value.int x) :: L.filter (fun q => !(q.1 == i) && !(q.1 + 1 == i && q.2.category == 2)) = L') (h : Ok p l e R s m args below meth c Γ nL Q (pc + 1) L' st σ) : Ok p l e R s m args below meth c Γ nL Q pc L (.int x :: st) σ :=
  fun H locs ls hR hL hls => lv_istore_n cx.1 cx.2.1 hd hi hls hn hl (fun ls' hls' => h H locs ls' hR hL hls')
theorem k_istore (cx : Cx p R s m args c Γ nL σ0 cc own) {i : Nat} (L' : List (Nat × Value)) {x : Int32} (hd : decode cc pc = .ok (.istore i, 2)) (hn : i < nL) (hl : (i, Value.int x) :: L.filter (fun q => !(q.1 == i) && !(q.1 + 1 == i && q.2.category == 2)) = L') (h : Ok p l e R s m args below meth c Γ nL Q (pc + 2) L' st σ) : Ok p l e R s m args below meth c Γ nL Q pc L (.int x :: st) σ :=
  fun H locs ls hR hL hls => lv_istore cx.1 cx.2.1 hd hls hn hl (fun ls' hls' => h H locs ls' hR hL hls')
theorem k_lstore_n (cx : Cx p R s m args c Γ nL σ0 cc own) {k : Fin 4} {i : Nat} (L' : List (Nat × Value)) {x : Int64} (hd : decode cc pc = .ok (.lstore_n k, 1)) (hi : (k : Nat) = i) (hn : i + 1 < nL) (hl : (i, Value.long x) :: L.filter (fun q => !(q.1 == i) && (!(q.1 == i + 1) && !(q.1 + 1 == i && q.2.category == 2))) = L') (h : Ok p l e R s m args below meth c Γ nL Q (pc + 1) L' st σ) : Ok p l e R s m args below meth c Γ nL Q pc L (.long x :: st) σ :=
  fun H locs ls hR hL hls => lv_lstore_n cx.1 cx.2.1 hd hi hls hn hl (fun ls' hls' => h H locs ls' hR hL hls')
theorem k_astore_n (cx : Cx p R s m args c Γ nL σ0 cc own) {k : Fin 4} {i : Nat} (L' : List (Nat × Value)) {x : Option Nat} (hd : decode cc pc = .ok (.astore_n k, 1)) (hi : (k : Nat) = i) (hn : i < nL) (hl : (i, va_rf x) :: L.filter (fun q => !(q.1 == i) && !(q.1 + 1 == i && q.2.category == 2)) = L') (h : Ok p l e R s m args below meth c Γ nL Q (pc + 1) L' st σ) : Ok p l e R s m args below meth c Γ nL Q pc L (va_rf x :: st) σ := by
  intro H locs ls hR hL hls
  cases x with
  | none => exact lv_astore_nN cx.1 cx.2.1 hd hi hls hn hl (fun ls' hls' => h H locs ls' hR hL hls')
  | some a => exact lv_astore_n cx.1 cx.2.1 hd hi hls hn hl (fun ls' hls' => h H locs ls' hR hL hls')
theorem k_astore (cx : Cx p R s m args c Γ nL σ0 cc own) {i : Nat} (L' : List (Nat × Value)) {x : Option Nat} (hd : decode cc pc = .ok (.astore i, 2)) (hn : i < nL) (hl : (i, va_rf x) :: L.filter (fun q => !(q.1 == i) && !(q.1 + 1 == i && q.2.category == 2)) = L') (h : Ok p l e R s m args below meth c Γ nL Q (pc + 2) L' st σ) : Ok p l e R s m args below meth c Γ nL Q pc L (va_rf x :: st) σ := by
  intro H locs ls hR hL hls
  cases x with
  | none => exact lv_astoreN cx.1 cx.2.1 hd hls hn hl (fun ls' hls' => h H locs ls' hR hL hls')
  | some a => exact lv_astore cx.1 cx.2.1 hd hls hn hl (fun ls' hls' => h H locs ls' hR hL hls')
theorem k_iinc (cx : Cx p R s m args c Γ nL σ0 cc own) {i : Nat} (k : Nat) (L' : List (Nat × Value)) {n : Int} {x : Int32} (v : Int32) (hd : decode cc pc = .ok (.iinc i n, 3)) (hk : L[k]? = some (i, .int x)) (hv : x + Int32.ofInt n = v) (hn : i < nL) (hl : (i, Value.int v) :: L.filter (fun q => !(q.1 == i) && !(q.1 + 1 == i && q.2.category == 2)) = L') (h : Ok p l e R s m args below meth c Γ nL Q (pc + 3) L' st σ) : Ok p l e R s m args below meth c Γ nL Q pc L st σ :=
  fun H locs ls hR hL hls => lv_iinc cx.1 cx.2.1 hd hls hk hv hn hl (fun ls' hls' => h H locs ls' hR hL hls')
/-- the same place with fewer locals -/
theorem k_sub (ks : List Nat) (hl : lv_pick L ks = L') (h : Ok p l e R s m args below meth c Γ nL Q pc L' st σ) : Ok p l e R s m args below meth c Γ nL Q pc L st σ :=
  fun H locs ls hR hL hls => h H locs ls hR hL (lv_sub hls ks hl)
theorem k_iconst (cx : Cx p R s m args c Γ nL σ0 cc own) {n : Int} (v : Int32) (hd : decode cc pc = .ok (.iconst n, 1)) (hv : Int32.ofInt n = v) (h : Ok p l e R s m args below meth c Γ nL Q (pc + 1) L (.int v :: st) σ) : Ok p l e R s m args below meth c Γ nL Q pc L st σ :=
  fun H locs ls hR hL hls => lv_iconst cx.1 cx.2.1 hd hv (h H locs ls hR hL hls)
theorem k_bipush (cx : Cx p R s m args c Γ nL σ0 cc own) {n : Int} (v : Int32) (hd : decode cc pc = .ok (.bipush n, 2)) (hv : (Int8.ofInt n).toInt32 = v) (h : Ok p l e R s m args below meth c Γ nL Q (pc + 2) L (.int v :: st) σ) : Ok p l e R s m args below meth c Γ nL Q pc L st σ :=
  fun H locs ls hR hL hls => lv_bipush cx.1 cx.2.1 hd hv (h H locs ls hR hL hls)
theorem k_sipush (cx : Cx p R s m args c Γ nL σ0 cc own) {n : Int} (v : Int32) (hd : decode cc pc = .ok (.sipush n, 3)) (hv : (Int16.ofInt n).toInt32 = v) (h : Ok p l e R s m args below meth c Γ nL Q (pc + 3) L (.int v :: st) σ) : Ok p l e R s m args below meth c Γ nL Q pc L st σ :=
  fun H locs ls hR hL hls => lv_sipush cx.1 cx.2.1 hd hv (h H locs ls hR hL hls)
theorem k_null (cx : Cx p R s m args c Γ nL σ0 cc own) (hd : decode cc pc = .ok (.aconst_null, 1)) (h : Ok p l e R s m args below meth c Γ nL Q (pc + 1) L (va_rf none :: st) σ) : Ok p l e R s m args below meth c Γ nL Q pc L st σ :=
  fun H locs ls hR hL hls => lv_null cx.1 cx.2.1 hd (h H locs ls hR hL hls)
theorem k_dup (cx : Cx p R s m args c Γ nL σ0 cc own) {v : Value} (hc : v.category = 1) (hd : decode cc pc = .ok (.dup, 1)) (h : Ok p l e R s m args below meth c Γ nL Q (pc + 1) L (v :: v :: st) σ) : Ok p l e R s m args below meth c Γ nL Q pc L (v :: st) σ :=
  fun H locs ls hR hL hls => lv_dup cx.1 cx.2.1 hd hc (h H locs ls hR hL hls)
theorem k_dup2 (cx : Cx p R s m args c Γ nL σ0 cc own) {v w : Value} (hc : v.category = 1) (hc2 : w.category = 1) (hd : decode cc pc = .ok (.dup2, 1)) (h : Ok p l e R s m args below meth c Γ nL Q (pc + 1) L (v :: w :: v :: w :: st) σ) : Ok p l e R s m args below meth c Γ nL Q pc L (v :: w :: st) σ :=
  fun H locs ls hR hL hls => lv_dup2_11 cx.1 cx.2.1 hd hc hc2 (h H locs ls hR hL hls)
theorem k_goto (cx : Cx p R s m args c Γ nL σ0 cc own) {off : Int} (tgt : Nat) (hd : decode cc pc = .ok (.goto off, 3)) (ht : (pc : Int) + off = (tgt : Int)) (h : Ok p l e R s m args below meth c Γ nL Q tgt L st σ) : Ok p l e R s m args below meth c Γ nL Q pc L st σ :=
  fun H locs ls hR hL hls => lv_goto cx.1 cx.2.1 hd ht (h H locs ls hR hL hls)
theorem cat_rf (x : Option Nat) : (va_rf x).category = 1 := by cases x <;> rfl
theorem k_ifnull (cx : Cx p R s m args c Γ nL σ0 cc own) {x : Option Nat} {off : Int} (tgt : Nat) (hd : decode cc pc = .ok (.ifnull off, 3)) (ht : (pc : Int) + off = (tgt : Int)) (h1 : x = none → Ok p l e R s m args below meth c Γ nL Q tgt L st σ) (h2 : ∀ a, x = some a → Ok p l e R s m args below meth c Γ nL Q (pc + 3) L st σ) : Ok p l e R s m args below meth c Γ nL Q pc L (va_rf x :: st) σ := by
  intro H locs ls hR hL hls
  cases x with
  | none => exact lv_ifnullN cx.1 cx.2.1 hd ht (h1 rfl H locs ls hR hL hls)
  | some a => exact lv_ifnull cx.1 cx.2.1 hd (h2 a rfl H locs ls hR hL hls)
theorem k_ifnonnull (cx : Cx p R s m args c Γ nL σ0 cc own) {x : Option Nat} {off : Int} (tgt : Nat) (hd : decode cc pc = .ok (.ifnonnull off, 3)) (ht : (pc : Int) + off = (tgt : Int)) (h1 : x = none → Ok p l e R s m args below meth c Γ nL Q (pc + 3) L st σ) (h2 : ∀ a, x = some a → Ok p l e R s m args below meth c Γ nL Q tgt L st σ) : Ok p l e R s m args below meth c Γ nL Q pc L (va_rf x :: st) σ := by
  intro H locs ls hR hL hls
  cases x with
  | none => exact lv_ifnonnullN cx.1 cx.2.1 hd (h1 rfl H locs ls hR hL hls)
  | some a => exact lv_ifnonnull cx.1 cx.2.1 hd ht (h2 a rfl H locs ls hR hL hls)
end OKL
end
section
section OKM
variable {p : Program} {l : Launch} {e : Env} {R : Room} {s : State} {m : MethodId} {args : Array Value} {below : List Frame} {meth : Method} {c : Code} {Q : State → Prop} {Γ : GE} {σ0 σ : St} {nL pc : Nat} {cc : ByteArray} {own : String} {L L' : List (Nat × Value)} {st : List Value}
theorem k_iadd (cx : Cx p R s m args c Γ nL σ0 cc own) {x y : Int32} (hd : decode cc pc = .ok (.iadd, 1)) (h : Ok p l e R s m args below meth c Γ nL Q (pc + 1) L (.int (x + y) :: st) σ) : Ok p l e R s m args below meth c Γ nL Q pc L (.int y :: .int x :: st) σ :=
  fun H locs ls hR hL hls => lv_iadd cx.1 cx.2.1 hd (h H locs ls hR hL hls)
theorem k_isub (cx : Cx p R s m args c Γ nL σ0 cc own) {x y : Int32} (hd : decode cc pc = .ok (.isub, 1)) (h : Ok p l e R s m args below meth c Γ nL Q (pc + 1) L (.int (x - y) :: st) σ) : Ok p l e R s m args below meth c Γ nL Q pc L (.int y :: .int x :: st) σ :=
  fun H locs ls hR hL hls => lv_isub cx.1 cx.2.1 hd (h H locs ls hR hL hls)
theorem k_imul (cx : Cx p R s m args c Γ nL σ0 cc own) {x y : Int32} (hd : decode cc pc = .ok (.imul, 1)) (h : Ok p l e R s m args below meth c Γ nL Q (pc + 1) L (.int (x * y) :: st) σ) : Ok p l e R s m args below meth c Γ nL Q pc L (.int y :: .int x :: st) σ :=
  fun H locs ls hR hL hls => lv_imul cx.1 cx.2.1 hd (h H locs ls hR hL hls)
theorem k_idiv (cx : Cx p R s m args c Γ nL σ0 cc own) {x y : Int32} (hd : decode cc pc = .ok (.idiv, 1)) {w : Int32} (hne : nz y = some w) (h : Ok p l e R s m args below meth c Γ nL Q (pc + 1) L (.int (x / y) :: st) σ) : Ok p l e R s m args below meth c Γ nL Q pc L (.int y :: .int x :: st) σ :=
  fun H locs ls hR hL hls => lv_idiv cx.1 cx.2.1 hd (nz_some hne).2 (h H locs ls hR hL hls)
theorem k_irem (cx : Cx p R s m args c Γ nL σ0 cc own) {x y : Int32} (hd : decode cc pc = .ok (.irem, 1)) {w : Int32} (hne : nz y = some w) (h : Ok p l e R s m args below meth c Γ nL Q (pc + 1) L (.int (x - x / y * y) :: st) σ) : Ok p l e R s m args below meth c Γ nL Q pc L (.int y :: .int x :: st) σ :=
  fun H locs ls hR hL hls => lv_irem cx.1 cx.2.1 hd (nz_some hne).2 (h H locs ls hR hL hls)
theorem k_ineg (cx : Cx p R s m args c Γ nL σ0 cc own) {x : Int32} (hd : decode cc pc = .ok (.ineg, 1)) (h : Ok p l e R s m args below meth c Γ nL Q (pc + 1) L (.int (-x) :: st) σ) : Ok p l e R s m args below meth c Γ nL Q pc L (.int x :: st) σ :=
  fun H locs ls hR hL hls => lv_ineg cx.1 cx.2.1 hd (h H locs ls hR hL hls)
theorem k_i2b (cx : Cx p R s m args c Γ nL σ0 cc own) {x : Int32} (hd : decode cc pc = .ok (.i2b, 1)) (h : Ok p l e R s m args below meth c Γ nL Q (pc + 1) L (.int x.toInt8.toInt32 :: st) σ) : Ok p l e R s m args below meth c Γ nL Q pc L (.int x :: st) σ :=
  fun H locs ls hR hL hls => lv_i2b cx.1 cx.2.1 hd rfl (h H locs ls hR hL hls)
theorem k_i2l (cx : Cx p R s m args c Γ nL σ0 cc own) {x : Int32} (hd : decode cc pc = .ok (.i2l, 1)) (h : Ok p l e R s m args below meth c Γ nL Q (pc + 1) L (.long x.toInt64 :: st) σ) : Ok p l e R s m args below meth c Γ nL Q pc L (.int x :: st) σ :=
  fun H locs ls hR hL hls => lv_i2l cx.1 cx.2.1 hd rfl (h H locs ls hR hL hls)
theorem k_l2i (cx : Cx p R s m args c Γ nL σ0 cc own) {x : Int64} (hd : decode cc pc = .ok (.l2i, 1)) (h : Ok p l e R s m args below meth c Γ nL Q (pc + 1) L (.int x.toInt32 :: st) σ) : Ok p l e R s m args below meth c Γ nL Q pc L (.long x :: st) σ :=
  fun H locs ls hR hL hls => lv_l2i cx.1 cx.2.1 hd rfl (h H locs ls hR hL hls)
theorem k_lmul (cx : Cx p R s m args c Γ nL σ0 cc own) {x y : Int64} (hd : decode cc pc = .ok (.lmul, 1)) (h : Ok p l e R s m args below meth c Γ nL Q (pc + 1) L (.long (x * y) :: st) σ) : Ok p l e R s m args below meth c Γ nL Q pc L (.long y :: .long x :: st) σ :=
  fun H locs ls hR hL hls => lv_lmul cx.1 cx.2.1 hd (h H locs ls hR hL hls)
theorem k_ladd (cx : Cx p R s m args c Γ nL σ0 cc own) {x y : Int64} (hd : decode cc pc = .ok (.ladd, 1)) (h : Ok p l e R s m args below meth c Γ nL Q (pc + 1) L (.long (x + y) :: st) σ) : Ok p l e R s m args below meth c Γ nL Q pc L (.long y :: .long x :: st) σ :=
  fun H locs ls hR hL hls => lv_ladd cx.1 cx.2.1 hd (h H locs ls hR hL hls)
theorem k_land (cx : Cx p R s m args c Γ nL σ0 cc own) {x y : Int64} (hd : decode cc pc = .ok (.land, 1)) (h : Ok p l e R s m args below meth c Γ nL Q (pc + 1) L (.long (x &&& y) :: st) σ) : Ok p l e R s m args below meth c Γ nL Q pc L (.long y :: .long x :: st) σ :=
  fun H locs ls hR hL hls => lv_land cx.1 cx.2.1 hd (h H locs ls hR hL hls)
theorem k_lshr (cx : Cx p R s m args c Γ nL σ0 cc own) {x : Int64} {y : Int32} (hd : decode cc pc = .ok (.lshr, 1)) (h : Ok p l e R s m args below meth c Γ nL Q (pc + 1) L (.long (x >>> (y.toInt64 &&& 63)) :: st) σ) : Ok p l e R s m args below meth c Γ nL Q pc L (.int y :: .long x :: st) σ :=
  fun H locs ls hR hL hls => lv_lshr cx.1 cx.2.1 hd rfl (h H locs ls hR hL hls)
theorem k_lcmp (cx : Cx p R s m args c Γ nL σ0 cc own) {x y : Int64} (hd : decode cc pc = .ok (.lcmp, 1)) (h : Ok p l e R s m args below meth c Γ nL Q (pc + 1) L (.int (lg_cmp x y) :: st) σ) : Ok p l e R s m args below meth c Γ nL Q pc L (.long y :: .long x :: st) σ :=
  fun H locs ls hR hL hls => W.lcmp cx.1 cx.2.1 hd (h H locs ls hR hL hls)
theorem k_icmp_eq (cx : Cx p R s m args c Γ nL σ0 cc own) {x y : Int32} {off : Int} (tgt : Nat) (hd : decode cc pc = .ok (.if_icmp .eq off, 3)) (ht : (pc : Int) + off = (tgt : Int)) (h1 : x = y → Ok p l e R s m args below meth c Γ nL Q tgt L st σ) (h2 : ¬ (x = y) → Ok p l e R s m args below meth c Γ nL Q (pc + 3) L st σ) : Ok p l e R s m args below meth c Γ nL Q pc L (.int y :: .int x :: st) σ :=
  fun H locs ls hR hL hls => lv_icmp_eq cx.1 cx.2.1 hd ht (fun q => h1 (by first | exact q | simpa using q) H locs ls hR hL hls) (fun q => h2 (by first | exact q | simpa using q) H locs ls hR hL hls)
theorem k_if_eq (cx : Cx p R s m args c Γ nL σ0 cc own) {x : Int32} {off : Int} (tgt : Nat) (hd : decode cc pc = .ok (.ifCond .eq off, 3)) (ht : (pc : Int) + off = (tgt : Int)) (h1 : x = 0 → Ok p l e R s m args below meth c Γ nL Q tgt L st σ) (h2 : ¬ (x = 0) → Ok p l e R s m args below meth c Γ nL Q (pc + 3) L st σ) : Ok p l e R s m args below meth c Γ nL Q pc L (.int x :: st) σ :=
  fun H locs ls hR hL hls => lv_if_eq cx.1 cx.2.1 hd ht (fun q => h1 (by first | exact q | simpa using q) H locs ls hR hL hls) (fun q => h2 (by first | exact q | simpa using q) H locs ls hR hL hls)
theorem k_icmp_ne (cx : Cx p R s m args c Γ nL σ0 cc own) {x y : Int32} {off : Int} (tgt : Nat) (hd : decode cc pc = .ok (.if_icmp .ne off, 3)) (ht : (pc : Int) + off = (tgt : Int)) (h1 : ¬ x = y → Ok p l e R s m args below meth c Γ nL Q tgt L st σ) (h2 : ¬ (¬ x = y) → Ok p l e R s m args below meth c Γ nL Q (pc + 3) L st σ) : Ok p l e R s m args below meth c Γ nL Q pc L (.int y :: .int x :: st) σ :=
  fun H locs ls hR hL hls => lv_icmp_ne cx.1 cx.2.1 hd ht (fun q => h1 (by first | exact q | simpa using q) H locs ls hR hL hls) (fun q => h2 (by first | exact q | simpa using q) H locs ls hR hL hls)
theorem k_if_ne (cx : Cx p R s m args c Γ nL σ0 cc own) {x : Int32} {off : Int} (tgt : Nat) (hd : decode cc pc = .ok (.ifCond .ne off, 3)) (ht : (pc : Int) + off = (tgt : Int)) (h1 : ¬ x = 0 → Ok p l e R s m args below meth c Γ nL Q tgt L st σ) (h2 : ¬ (¬ x = 0) → Ok p l e R s m args below meth c Γ nL Q (pc + 3) L st σ) : Ok p l e R s m args below meth c Γ nL Q pc L (.int x :: st) σ :=
  fun H locs ls hR hL hls => lv_if_ne cx.1 cx.2.1 hd ht (fun q => h1 (by first | exact q | simpa using q) H locs ls hR hL hls) (fun q => h2 (by first | exact q | simpa using q) H locs ls hR hL hls)
theorem k_icmp_lt (cx : Cx p R s m args c Γ nL σ0 cc own) {x y : Int32} {off : Int} (tgt : Nat) (hd : decode cc pc = .ok (.if_icmp .lt off, 3)) (ht : (pc : Int) + off = (tgt : Int)) (h1 : x < y → Ok p l e R s m args below meth c Γ nL Q tgt L st σ) (h2 : ¬ (x < y) → Ok p l e R s m args below meth c Γ nL Q (pc + 3) L st σ) : Ok p l e R s m args below meth c Γ nL Q pc L (.int y :: .int x :: st) σ :=
  fun H locs ls hR hL hls => lv_icmp_lt cx.1 cx.2.1 hd ht (fun q => h1 (by first | exact q | simpa using q) H locs ls hR hL hls) (fun q => h2 (by first | exact q | simpa using q) H locs ls hR hL hls)
theorem k_if_lt (cx : Cx p R s m args c Γ nL σ0 cc own) {x : Int32} {off : Int} (tgt : Nat) (hd : decode cc pc = .ok (.ifCond .lt off, 3)) (ht : (pc : Int) + off = (tgt : Int)) (h1 : x < 0 → Ok p l e R s m args below meth c Γ nL Q tgt L st σ) (h2 : ¬ (x < 0) → Ok p l e R s m args below meth c Γ nL Q (pc + 3) L st σ) : Ok p l e R s m args below meth c Γ nL Q pc L (.int x :: st) σ :=
  fun H locs ls hR hL hls => lv_if_lt cx.1 cx.2.1 hd ht (fun q => h1 (by first | exact q | simpa using q) H locs ls hR hL hls) (fun q => h2 (by first | exact q | simpa using q) H locs ls hR hL hls)
theorem k_icmp_ge (cx : Cx p R s m args c Γ nL σ0 cc own) {x y : Int32} {off : Int} (tgt : Nat) (hd : decode cc pc = .ok (.if_icmp .ge off, 3)) (ht : (pc : Int) + off = (tgt : Int)) (h1 : y ≤ x → Ok p l e R s m args below meth c Γ nL Q tgt L st σ) (h2 : ¬ (y ≤ x) → Ok p l e R s m args below meth c Γ nL Q (pc + 3) L st σ) : Ok p l e R s m args below meth c Γ nL Q pc L (.int y :: .int x :: st) σ :=
  fun H locs ls hR hL hls => lv_icmp_ge cx.1 cx.2.1 hd ht (fun q => h1 (by first | exact q | simpa using q) H locs ls hR hL hls) (fun q => h2 (by first | exact q | simpa using q) H locs ls hR hL hls)
theorem k_if_ge (cx : Cx p R s m args c Γ nL σ0 cc own) {x : Int32} {off : Int} (tgt : Nat) (hd : decode cc pc = .ok (.ifCond .ge off, 3)) (ht : (pc : Int) + off = (tgt : Int)) (h1 : 0 ≤ x → Ok p l e R s m args below meth c Γ nL Q tgt L st σ) (h2 : ¬ (0 ≤ x) → Ok p l e R s m args below meth c Γ nL Q (pc + 3) L st σ) : Ok p l e R s m args below meth c Γ nL Q pc L (.int x :: st) σ :=
  fun H locs ls hR hL hls => lv_if_ge cx.1 cx.2.1 hd ht (fun q => h1 (by first | exact q | simpa using q) H locs ls hR hL hls) (fun q => h2 (by first | exact q | simpa using q) H locs ls hR hL hls)
theorem k_icmp_gt (cx : Cx p R s m args c Γ nL σ0 cc own) {x y : Int32} {off : Int} (tgt : Nat) (hd : decode cc pc = .ok (.if_icmp .gt off, 3)) (ht : (pc : Int) + off = (tgt : Int)) (h1 : y < x → Ok p l e R s m args below meth c Γ nL Q tgt L st σ) (h2 : ¬ (y < x) → Ok p l e R s m args below meth c Γ nL Q (pc + 3) L st σ) : Ok p l e R s m args below meth c Γ nL Q pc L (.int y :: .int x :: st) σ :=
  fun H locs ls hR hL hls => lv_icmp_gt cx.1 cx.2.1 hd ht (fun q => h1 (by first | exact q | simpa using q) H locs ls hR hL hls) (fun q => h2 (by first | exact q | simpa using q) H locs ls hR hL hls)
theorem k_if_gt (cx : Cx p R s m args c Γ nL σ0 cc own) {x : Int32} {off : Int} (tgt : Nat) (hd : decode cc pc = .ok (.ifCond .gt off, 3)) (ht : (pc : Int) + off = (tgt : Int)) (h1 : 0 < x → Ok p l e R s m args below meth c Γ nL Q tgt L st σ) (h2 : ¬ (0 < x) → Ok p l e R s m args below meth c Γ nL Q (pc + 3) L st σ) : Ok p l e R s m args below meth c Γ nL Q pc L (.int x :: st) σ :=
  fun H locs ls hR hL hls => lv_if_gt cx.1 cx.2.1 hd ht (fun q => h1 (by first | exact q | simpa using q) H locs ls hR hL hls) (fun q => h2 (by first | exact q | simpa using q) H locs ls hR hL hls)
theorem k_icmp_le (cx : Cx p R s m args c Γ nL σ0 cc own) {x y : Int32} {off : Int} (tgt : Nat) (hd : decode cc pc = .ok (.if_icmp .le off, 3)) (ht : (pc : Int) + off = (tgt : Int)) (h1 : x ≤ y → Ok p l e R s m args below meth c Γ nL Q tgt L st σ) (h2 : ¬ (x ≤ y) → Ok p l e R s m args below meth c Γ nL Q (pc + 3) L st σ) : Ok p l e R s m args below meth c Γ nL Q pc L (.int y :: .int x :: st) σ :=
  fun H locs ls hR hL hls => lv_icmp_le cx.1 cx.2.1 hd ht (fun q => h1 (by first | exact q | simpa using q) H locs ls hR hL hls) (fun q => h2 (by first | exact q | simpa using q) H locs ls hR hL hls)
theorem k_if_le (cx : Cx p R s m args c Γ nL σ0 cc own) {x : Int32} {off : Int} (tgt : Nat) (hd : decode cc pc = .ok (.ifCond .le off, 3)) (ht : (pc : Int) + off = (tgt : Int)) (h1 : x ≤ 0 → Ok p l e R s m args below meth c Γ nL Q tgt L st σ) (h2 : ¬ (x ≤ 0) → Ok p l e R s m args below meth c Γ nL Q (pc + 3) L st σ) : Ok p l e R s m args below meth c Γ nL Q pc L (.int x :: st) σ :=
  fun H locs ls hR hL hls => lv_if_le cx.1 cx.2.1 hd ht (fun q => h1 (by first | exact q | simpa using q) H locs ls hR hL hls) (fun q => h2 (by first | exact q | simpa using q) H locs ls hR hL hls)
theorem k_ldc2 (cx : Cx p R s m args c Γ nL σ0 cc own) {idx : Nat} (v : Int64) (hw : Cond.constantLong own idx v ∈ TBL) (hd : decode cc pc = .ok (.ldc2_w idx, 3)) (h : Ok p l e R s m args below meth c Γ nL Q (pc + 3) L (.long v :: st) σ) : Ok p l e R s m args below meth c Γ nL Q pc L st σ :=
  fun H locs ls hR hL hls => lv_ldc2 cx.1 cx.2.1 cx.2.2.2.1 (cx.2.2.2.2.1 _ hw) hd (h H locs ls hR hL hls)
/-- tableswitch over lo .. hi: one goal a case, by the value -/
theorem k_switch (cx : Cx p R s m args c Γ nL σ0 cc own) {dflt lo hi : Int} {offs : Array Int} {len : Nat} {x : Int32} (hd : decode cc pc = .ok (.tableswitch dflt lo hi offs, len)) (hn : (hi - lo + 1).toNat = offs.size) (h1 : (x.toInt < lo ∨ hi < x.toInt) → Ok p l e R s m args below meth c Γ nL Q ((pc : Int) + dflt).toNat L st σ) (hp : 0 ≤ (pc : Int) + dflt) (h2 : ∀ (k : Nat) (off : Int), offs[k]? = some off → x.toInt = lo + k → 0 ≤ (pc : Int) + off ∧ Ok p l e R s m args below meth c Γ nL Q ((pc : Int) + off).toNat L st σ) : Ok p l e R s m args below meth c Γ nL Q pc L (.int x :: st) σ := by
  intro H locs ls hR hL hls
  by_cases hx : x.toInt < lo ∨ hi < x.toInt
  · exact lv_tableOut (tgt := ((pc : Int) + dflt).toNat) cx.1 cx.2.1 hd hx (by omega) (h1 hx H locs ls hR hL hls)
  · have a := not_or.mp hx
    have hlt : (x.toInt - lo).toNat < offs.size := by omega
    obtain ⟨off, ho⟩ : ∃ off, offs[(x.toInt - lo).toNat]? = some off := ⟨offs[(x.toInt - lo).toNat], by simp [hlt]⟩
    obtain ⟨b1, b2⟩ := h2 _ off ho (by omega)
    exact lv_tableIn (off := off) (tgt := ((pc : Int) + off).toNat) cx.1 cx.2.1 hd a.1 a.2 ho (by omega) (b2 H locs ls hR hL hls)
/-- a link to field k of class ci -/
def FL (own : String) (idx ci k : Nat) : Prop := ∃ (C : String) (T : u_T) (N : Nat) (ty : Nat → FieldType), (vwCl[ci]? = some (C, T, N) ∧ k < N ∧ ci < 12 ∧ nfl ci = N) ∧ (∀ w ∈ u_ws C T N, w ∈ TBL) ∧ Cond.fieldLink own idx (T k).1 (T k).2.1 (T k).2.2.1 ∈ TBL ∧ (∀ k, k < N → parseFieldDescriptor (T k).2.2.1 = some (ty k)) ∧ (∀ a, a < N → ∀ b, b < N → a ≠ b → (T a).2.1 ≠ (T b).2.1)
theorem rep_at {H : Heap} {a : Nat} (hR : RepH Γ σ H) (h : hpK σ a < 20) : gB Γ ≤ a ∧ a < hpN σ ∧ CellAt Γ σ H a := hR.2.2.2.2.1 a h
theorem k_getX (cx : Cx p R s m args c Γ nL σ0 cc own) {idx ci k a : Nat} {x : Option Nat} {v : Value} (hf : FL own idx ci k) (hv : oV σ ci a k = v) (hx : dn σ ci x = some a) (hd : decode cc pc = .ok (.getfield idx, 3)) (h : Ok p l e R s m args below meth c Γ nL Q (pc + 3) L (v :: st) σ) : Ok p l e R s m args below meth c Γ nL Q pc L (va_rf x :: st) σ := by
  intro H locs ls hR hL hls
  obtain ⟨rfl, hk⟩ := dn_some hx
  obtain ⟨C, T, N, ty, ⟨hc, hkN, hci, hN⟩, hin, hl, -, -⟩ := hf
  have hcell := (rep_at hR (by omega : hpK σ a < 20)).2.2.1 (by omega)
  rw [hk] at hcell
  obtain ⟨cell, q1, q2, q3, q4⟩ := hcell
  obtain ⟨hS, hfc, kC, hkC, hkind⟩ := cx.2.2.2.2.2.1.1.1 ci _ hc
  obtain ⟨cf, kf, fi, f, hi, hsl⟩ := hS k hkN
  refine W.getf cx.1 cx.2.1 cx.2.2.2.1 (cx.2.2.2.2.1 _ hl) hi (u_facts hfc hkC (u_lays cx.2.2.2.2.1 hin hkN) hi).1 q1 (by rw [q3]; exact fun h => by cases h) (v := v) ?_ rfl rfl hd (h H locs ls hR hL hls)
  rw [hsl, q4 k (by omega), hv]
theorem k_getI (cx : Cx p R s m args c Γ nL σ0 cc own) {idx ci k a : Nat} {x : Option Nat} (hf : FL own idx ci k) (ht : fty ci k = 0) (hx : dn σ ci x = some a) (hd : decode cc pc = .ok (.getfield idx, 3)) (h : Ok p l e R s m args below meth c Γ nL Q (pc + 3) L (.int (hpI σ (32 * ci + k) a) :: st) σ) : Ok p l e R s m args below meth c Γ nL Q pc L (va_rf x :: st) σ :=
  k_getX cx hf (by simp [oV, ht]) hx hd h
theorem k_getR (cx : Cx p R s m args c Γ nL σ0 cc own) {idx ci k a : Nat} {x : Option Nat} (hf : FL own idx ci k) (ht : fty ci k = 1) (hx : dn σ ci x = some a) (hd : decode cc pc = .ok (.getfield idx, 3)) (h : Ok p l e R s m args below meth c Γ nL Q (pc + 3) L (va_rf (hpR σ (32 * ci + k) a) :: st) σ) : Ok p l e R s m args below meth c Γ nL Q pc L (va_rf x :: st) σ :=
  k_getX cx hf (by simp [oV, ht]) hx hd h
theorem k_getJ (cx : Cx p R s m args c Γ nL σ0 cc own) {idx ci k a : Nat} {x : Option Nat} (hf : FL own idx ci k) (ht : fty ci k = 2) (hx : dn σ ci x = some a) (hd : decode cc pc = .ok (.getfield idx, 3)) (h : Ok p l e R s m args below meth c Γ nL Q (pc + 3) L (.long (hpJ σ (32 * ci + k) a) :: st) σ) : Ok p l e R s m args below meth c Γ nL Q pc L (va_rf x :: st) σ :=
  k_getX cx hf (by simp [oV, ht]) hx hd h
/-- the state behind a write of one field -/
theorem rep_putO {H H1 : Heap} {a ci k : Nat} {σ1 : St} {cell : Cell} {i : Nat} {v : Value} (hR : RepH Γ σ H) (hk : hpK σ a = ci) (hci : ci < 12) (hkk : k < nfl ci)
    (hN : hpN σ1 = hpN σ) (hC : hpC σ1 = hpC σ) (hS : hpS σ1 = hpS σ) (hK : ∀ b, hpK σ1 b = hpK σ b) (hL : ∀ b, hpL σ1 b = hpL σ b) (hA : ∀ b j, hpA σ1 b j = hpA σ b j) (hB : ∀ b j, hpB σ1 b j = hpB σ b j) (hG : ∀ i, hpG σ1 i = hpG σ i)
    (hV : oV σ1 ci a = updV (oV σ ci a) k v) (hO : ∀ b cj j, b ≠ a → oV σ1 cj b j = oV σ cj b j)
    (h1 : H[a]? = some cell) (e1 : H1[a]? = some (cell.setSlot i v)) (z : H1.size = H.size) (oq : ∀ q : Nat, q ≠ a → H1[q]? = H[q]?) (hob : t_OB a ((gD Γ).1 ci) (nfl ci) ((gD Γ).2 ci) H1 (updV (oV σ ci a) k v)) : RepH Γ σ1 H1 := by
  obtain ⟨r1, r2, r3, r4, r5, r6, r7, r8, r9⟩ := hR
  have hab := r5 a (by omega)
  refine ⟨by rw [z, hN]; exact r1, by rw [hN, hC]; exact r2, fun b hb => by rw [oq b (by omega)]; exact r3 b hb, ?_, fun b hb => ?_, fun b hb => ?_, fun i => by rw [hG]; exact r7 i, by rw [hC]; exact r8, by rw [hS]; exact r9⟩
  · rw [hS, ← r4]
    refine hsz_same z (fun q => ?_)
    by_cases hq : q = a
    · subst hq
      rw [e1, h1]
      simp [Cell.setSlot]
    · rw [oq q hq]
  · rw [hK] at hb
    obtain ⟨b1, b2, b3⟩ := r5 b hb
    refine ⟨b1, by rw [hN]; exact b2, ?_⟩
    by_cases hq : b = a
    · subst hq
      refine ⟨fun _ => ?_, fun h => ?_, fun h => ?_⟩
      · rw [hK, hk, hV]; exact hob
      · rw [hK] at h; omega
      · rw [hK] at h; omega
    · refine ⟨fun h => ?_, fun h => ?_, fun h => ?_⟩
      · rw [hK] at h ⊢
        exact ((b3.1 h).kept (oq b hq)).to (fun j _ => (hO b _ j hq).symm)
      · rw [hK] at h ⊢
        rw [oq b hq, b3.2.1 h, hL]
        simp only [hA]
      · rw [hK] at h ⊢
        rw [oq b hq, b3.2.2 h, hL]
        simp only [hB]
  · rw [hK] at hb
    obtain ⟨f, f1, f2⟩ := r6 b hb
    exact ⟨f, by rw [hL]; exact f1, fun j hj => by rw [hA]; rw [hL] at hj; exact f2 j hj⟩
theorem k_putX (cx : Cx p R s m args c Γ nL σ0 cc own) {idx ci k a : Nat} {x : Option Nat} {v : Value} {σ1 : St} (hf : FL own idx ci k) (hx : dn σ ci x = some a) (hfin : ∀ (C : String) (T : u_T) (N : Nat), vwCl[ci]? = some (C, T, N) → (T k).2.2.2 = false ∨ (meth.name = "<init>" ∧ (T k).1 = own))
    (hfit : ∀ (C : String) (T : u_T) (N : Nat), vwCl[ci]? = some (C, T, N) → ∃ ty, parseFieldDescriptor (T k).2.2.1 = some ty ∧ narrow ty v = v ∧ fits ty v = true)
    (hN : hpN σ1 = hpN σ) (hC : hpC σ1 = hpC σ) (hS : hpS σ1 = hpS σ) (hK : ∀ b, hpK σ1 b = hpK σ b) (hL : ∀ b, hpL σ1 b = hpL σ b) (hA : ∀ b j, hpA σ1 b j = hpA σ b j) (hB : ∀ b j, hpB σ1 b j = hpB σ b j) (hG : ∀ i, hpG σ1 i = hpG σ i)
    (hV : oV σ1 ci a = updV (oV σ ci a) k v) (hO : ∀ b cj j, b ≠ a → oV σ1 cj b j = oV σ cj b j)
    (hd : decode cc pc = .ok (.putfield idx, 3)) (h : Ok p l e R s m args below meth c Γ nL Q (pc + 3) L st σ1) : Ok p l e R s m args below meth c Γ nL Q pc L (v :: va_rf x :: st) σ := by
  intro H locs ls hR hL0 hls
  obtain ⟨rfl, hk⟩ := dn_some hx
  obtain ⟨C, T, N, ty0, ⟨hc, hkN, hci, hNn⟩, hin, hl, hty, hnm⟩ := hf
  have hat := rep_at hR (by omega : hpK σ a < 20)
  have hcell := hat.2.2.1 (by omega)
  rw [hk] at hcell
  have hap := va_apart (own := own) cx.2.2.2.2.1 hin ty0 hty hnm cx.2.2.2.2.2.1.1 hc
  obtain ⟨cell, q1, q2, q3, q4⟩ := hcell
  rw [hNn] at q4
  obtain ⟨hS1, hfc, kC, hkC, hkind⟩ := cx.2.2.2.2.2.1.1.1 ci _ hc
  obtain ⟨cf, kf, fi, f, hi, hsl⟩ := hS1 k hkN
  obtain ⟨ty, hty1, hn1, hft1⟩ := hfit C T N hc
  have hst := (u_facts hfc hkC (u_lays cx.2.2.2.2.1 hin hkN) hi).1
  have hlay := cx.2.2.2.2.1 _ (hin _ (u_in_lay hkN))
  have hgo : ∀ H1 : Heap, H1[a]? = some (cell.setSlot f.slot v) → H1.size = H.size → (∀ q, q ≠ a → H1[q]? = H[q]?) → W p l e R s m args below meth c H1 (locs ++ [⟨a, f.slot⟩]) R.cells R.slots Q (F0 m (pc + 3) ls st) := by
    intro H1 e1 e2 e3
    have hsl' : f.slot = (gD Γ).2 ci k := hsl
    rw [hsl'] at e1
    refine h H1 _ ls (rep_putO hR hk hci (by omega) hN hC hS hK hL hA hB hG hV hO q1 e1 e2 e3 ⟨_, e1, q2, q3, by rw [hNn]; exact t_set q4 hap hkN v⟩) (fun q hq => ?_) hls
    rcases List.mem_append.mp hq with h9 | h9
    · exact hL0 q h9
    · rw [List.mem_singleton.mp h9]; exact hat.1
  have hlt : f.slot < cell.slots.size := by
    rw [hsl]; exact k2_hasslot (q4 k hkN)
  by_cases hfn : (T k).2.2.2 = true
  · rcases hfin C T N hc with h9 | ⟨h9, hdecl⟩
    · rw [h9] at hfn; cases hfn
    · unfold u_lay at hlay
      rw [if_pos hfn] at hlay
      have hcf : m.cls = cf := by
        obtain ⟨_, _, c', _, _, _, -, -, hf', -, -, -, hown2, -⟩ := Cond.laysFinal_spec hlay
        have e1 : c' = cf := by have := hi.symm.trans hf'; simp at this; exact this.1.symm
        rw [hdecl] at hown2
        rw [← e1]; exact Option.some.inj (cx.2.2.2.1.symm.trans hown2)
      have h6 := u_fits hfc hkC hkind (Or.inr hlay) hi hty1 hn1 hft1
      exact W.putFinK cx.1 cx.2.1 cx.2.2.2.1 (cx.2.2.2.2.1 _ hl) hi hst hcf h9 (by rw [q2]; exact h6) q1 q3 hlt rfl rfl hd hgo
  · unfold u_lay at hlay
    rw [if_neg hfn] at hlay
    have h6 := u_store hfc hkC hkind hlay hi hty1 hn1 hft1
    exact W.putK cx.1 cx.2.1 (f := f) ⟨cx.2.2.2.1, cx.2.2.2.2.1 _ hl, ⟨_, _, _, hi⟩, hst⟩ (by rw [q2]; exact h6) q1 q3 hlt rfl rfl hd hgo
/-- the type that a field of int kind takes: PI (an int), PZ (a boolean); and that it may be written -/
def PF (own : String) (ci k : Nat) (T0 : FieldType) (fin : Bool) : Prop := ∃ (C : String) (T : u_T) (N : Nat), vwCl[ci]? = some (C, T, N) ∧ parseFieldDescriptor (T k).2.2.1 = some T0 ∧ (T k).2.2.2 = fin ∧ (T k).1 = own
theorem oV_stI (f0 a0 : Nat) (v : Int32) (ci b : Nat) (hb : b ≠ a0) (j : Nat) : oV (stI σ f0 a0 v) ci b j = oV σ ci b j := by
  simp only [oV, hpI_stI, hpR_stI, hpJ_stI]
  rw [if_neg (fun q => hb q.2)]
theorem oV_stR (f0 a0 : Nat) (v : Option Nat) (ci b : Nat) (hb : b ≠ a0) (j : Nat) : oV (stR σ f0 a0 v) ci b j = oV σ ci b j := by
  simp only [oV, hpI_stR, hpR_stR, hpJ_stR]
  rw [if_neg (fun q => hb q.2)]
theorem oV_stJ (f0 a0 : Nat) (v : Int64) (ci b : Nat) (hb : b ≠ a0) (j : Nat) : oV (stJ σ f0 a0 v) ci b j = oV σ ci b j := by
  simp only [oV, hpI_stJ, hpR_stJ, hpJ_stJ]
  rw [if_neg (fun q => hb q.2)]
theorem pf_fin {ci k : Nat} {T0 : FieldType} {fin : Bool} (hp : PF own ci k T0 fin) (hin : fin = false ∨ meth.name = "<init>") : ∀ (C : String) (T : u_T) (N : Nat), vwCl[ci]? = some (C, T, N) → (T k).2.2.2 = false ∨ (meth.name = "<init>" ∧ (T k).1 = own) := by
  obtain ⟨C, T, N, h1, h2, h3, h4⟩ := hp
  intro C' T' N' h'
  cases h1.symm.trans h'
  rcases hin with rfl | h
  · exact Or.inl h3
  · exact Or.inr ⟨h, h4⟩
def PG (ci k : Nat) (T0 : FieldType) : Prop := ∃ (C : String) (T : u_T) (N : Nat), vwCl[ci]? = some (C, T, N) ∧ parseFieldDescriptor (T k).2.2.1 = some T0 ∧ (T k).2.2.2 = false
theorem pg_fin {ci k : Nat} {T0 : FieldType} (hp : PG ci k T0) : ∀ (C : String) (T : u_T) (N : Nat), vwCl[ci]? = some (C, T, N) → (T k).2.2.2 = false ∨ (meth.name = "<init>" ∧ (T k).1 = own) := by
  obtain ⟨C, T, N, h1, h2, h3⟩ := hp
  intro C' T' N' h'
  cases h1.symm.trans h'
  exact Or.inl h3
def PT (ci k : Nat) (T0 : FieldType) : Prop := ∃ (C : String) (T : u_T) (N : Nat), vwCl[ci]? = some (C, T, N) ∧ parseFieldDescriptor (T k).2.2.1 = some T0
theorem pt_fit {ci k : Nat} {T0 : FieldType} {v : Value} (hp : PT ci k T0) (h1 : narrow T0 v = v) (h2 : fits T0 v = true) : ∀ (C : String) (T : u_T) (N : Nat), vwCl[ci]? = some (C, T, N) → ∃ ty, parseFieldDescriptor (T k).2.2.1 = some ty ∧ narrow ty v = v ∧ fits ty v = true := by
  obtain ⟨C, T, N, h3, h4⟩ := hp
  intro C' T' N' h'
  cases h3.symm.trans h'
  exact ⟨T0, h4, h1, h2⟩
theorem gz_narrow {v w : Int32} (h : gz v = some w) : narrow .boolean (.int v) = .int v ∧ fits .boolean (.int v) = true := by
  rcases (gz_some h).2 with rfl | rfl <;> exact ⟨rfl, rfl⟩
theorem oV_I {ci k : Nat} (ht : fty ci k = 0) (hk : k < 32) (a : Nat) (v : Int32) : oV (stI σ (32 * ci + k) a v) ci a = updV (oV σ ci a) k (.int v) := by
  funext j
  simp only [oV, hpI_stI, hpR_stI, hpJ_stI, updV]
  by_cases hj : j = k
  · subst hj
    simp [ht]
  · simp [hj]
theorem oV_R {ci k : Nat} (ht : fty ci k = 1) (a : Nat) (v : Option Nat) : oV (stR σ (32 * ci + k) a v) ci a = updV (oV σ ci a) k (va_rf v) := by
  funext j
  simp only [oV, hpI_stR, hpR_stR, hpJ_stR, updV]
  by_cases hj : j = k
  · subst hj
    simp [ht]
  · simp [hj]
theorem oV_J {ci k : Nat} (ht : fty ci k = 2) (a : Nat) (v : Int64) : oV (stJ σ (32 * ci + k) a v) ci a = updV (oV σ ci a) k (.long v) := by
  funext j
  simp only [oV, hpI_stJ, hpR_stJ, hpJ_stJ, updV]
  by_cases hj : j = k
  · subst hj
    simp [ht]
  · simp [hj]
theorem k_putI (cx : Cx p R s m args c Γ nL σ0 cc own) {idx ci k a : Nat} {x : Option Nat} {v : Int32} (hf : FL own idx ci k) (ht : fty ci k = 0) (hk : k < 32) (hp : PT ci k .int) (hg : PG ci k .int) (hx : dn σ ci x = some a) (hd : decode cc pc = .ok (.putfield idx, 3)) (h : Ok p l e R s m args below meth c Γ nL Q (pc + 3) L st (stI σ (32 * ci + k) a v)) : Ok p l e R s m args below meth c Γ nL Q pc L (.int v :: va_rf x :: st) σ :=
  k_putX (σ1 := stI σ (32 * ci + k) a v) cx hf hx (pg_fin hg) (pt_fit hp rfl rfl) rfl rfl rfl (fun _ => rfl) (fun _ => rfl) (fun _ _ => rfl) (fun _ _ => rfl) (fun _ => rfl) (oV_I ht hk a v) (fun b cj j hb => oV_stI _ a v cj b hb j) hd h
theorem k_putZ (cx : Cx p R s m args c Γ nL σ0 cc own) {idx ci k a : Nat} {x : Option Nat} {v w : Int32} (hf : FL own idx ci k) (ht : fty ci k = 0) (hk : k < 32) (hp : PT ci k .boolean) (hg : PG ci k .boolean) (hx : dn σ ci x = some a) (hz : gz v = some w) (hd : decode cc pc = .ok (.putfield idx, 3)) (h : Ok p l e R s m args below meth c Γ nL Q (pc + 3) L st (stI σ (32 * ci + k) a v)) : Ok p l e R s m args below meth c Γ nL Q pc L (.int v :: va_rf x :: st) σ :=
  k_putX (σ1 := stI σ (32 * ci + k) a v) cx hf hx (pg_fin hg) (pt_fit hp (gz_narrow hz).1 (gz_narrow hz).2) rfl rfl rfl (fun _ => rfl) (fun _ => rfl) (fun _ _ => rfl) (fun _ _ => rfl) (fun _ => rfl) (oV_I ht hk a v) (fun b cj j hb => oV_stI _ a v cj b hb j) hd h
theorem k_putIF (cx : Cx p R s m args c Γ nL σ0 cc own) {idx ci k a : Nat} {x : Option Nat} {v : Int32} {fin : Bool} (hf : FL own idx ci k) (ht : fty ci k = 0) (hk : k < 32) (hp : PT ci k .int) (hg : PF own ci k .int fin) (hin : meth.name = "<init>") (hx : dn σ ci x = some a) (hd : decode cc pc = .ok (.putfield idx, 3)) (h : Ok p l e R s m args below meth c Γ nL Q (pc + 3) L st (stI σ (32 * ci + k) a v)) : Ok p l e R s m args below meth c Γ nL Q pc L (.int v :: va_rf x :: st) σ :=
  k_putX (σ1 := stI σ (32 * ci + k) a v) cx hf hx (pf_fin hg (Or.inr hin)) (pt_fit hp rfl rfl) rfl rfl rfl (fun _ => rfl) (fun _ => rfl) (fun _ _ => rfl) (fun _ _ => rfl) (fun _ => rfl) (oV_I ht hk a v) (fun b cj j hb => oV_stI _ a v cj b hb j) hd h
theorem k_putZF (cx : Cx p R s m args c Γ nL σ0 cc own) {idx ci k a : Nat} {x : Option Nat} {v w : Int32} {fin : Bool} (hf : FL own idx ci k) (ht : fty ci k = 0) (hk : k < 32) (hp : PT ci k .boolean) (hg : PF own ci k .boolean fin) (hin : meth.name = "<init>") (hx : dn σ ci x = some a) (hz : gz v = some w) (hd : decode cc pc = .ok (.putfield idx, 3)) (h : Ok p l e R s m args below meth c Γ nL Q (pc + 3) L st (stI σ (32 * ci + k) a v)) : Ok p l e R s m args below meth c Γ nL Q pc L (.int v :: va_rf x :: st) σ :=
  k_putX (σ1 := stI σ (32 * ci + k) a v) cx hf hx (pf_fin hg (Or.inr hin)) (pt_fit hp (gz_narrow hz).1 (gz_narrow hz).2) rfl rfl rfl (fun _ => rfl) (fun _ => rfl) (fun _ _ => rfl) (fun _ _ => rfl) (fun _ => rfl) (oV_I ht hk a v) (fun b cj j hb => oV_stI _ a v cj b hb j) hd h
theorem rf_fit (T0 : FieldType) (hT : T0.isReference = true) (v : Option Nat) : narrow T0 (va_rf v) = va_rf v ∧ fits T0 (va_rf v) = true := by
  cases T0 <;> first | (cases v <;> exact ⟨rfl, rfl⟩) | exact absurd hT (by decide)
theorem k_putRF (cx : Cx p R s m args c Γ nL σ0 cc own) {idx ci k a : Nat} {x v : Option Nat} {T0 : FieldType} {fin : Bool} (hf : FL own idx ci k) (ht : fty ci k = 1) (hT : T0.isReference = true) (hp : PT ci k T0) (hg : PF own ci k T0 fin) (hin : meth.name = "<init>") (hx : dn σ ci x = some a) (hd : decode cc pc = .ok (.putfield idx, 3)) (h : Ok p l e R s m args below meth c Γ nL Q (pc + 3) L st (stR σ (32 * ci + k) a v)) : Ok p l e R s m args below meth c Γ nL Q pc L (va_rf v :: va_rf x :: st) σ :=
  k_putX (σ1 := stR σ (32 * ci + k) a v) cx hf hx (pf_fin hg (Or.inr hin)) (pt_fit hp (rf_fit T0 hT v).1 (rf_fit T0 hT v).2) rfl rfl rfl (fun _ => rfl) (fun _ => rfl) (fun _ _ => rfl) (fun _ _ => rfl) (fun _ => rfl) (oV_R ht a v) (fun b cj j hb => oV_stR _ a v cj b hb j) hd h
theorem k_putJ (cx : Cx p R s m args c Γ nL σ0 cc own) {idx ci k a : Nat} {x : Option Nat} {v : Int64} (hf : FL own idx ci k) (ht : fty ci k = 2) (hp : PT ci k .long) (hg : PG ci k .long) (hx : dn σ ci x = some a) (hd : decode cc pc = .ok (.putfield idx, 3)) (h : Ok p l e R s m args below meth c Γ nL Q (pc + 3) L st (stJ σ (32 * ci + k) a v)) : Ok p l e R s m args below meth c Γ nL Q pc L (.long v :: va_rf x :: st) σ :=
  k_putX (σ1 := stJ σ (32 * ci + k) a v) cx hf hx (pg_fin hg) (pt_fit hp rfl rfl) rfl rfl rfl (fun _ => rfl) (fun _ => rfl) (fun _ _ => rfl) (fun _ _ => rfl) (fun _ => rfl) (oV_J ht a v) (fun b cj j hb => oV_stJ _ a v cj b hb j) hd h
end OKM
end
section
section OKA
variable {p : Program} {l : Launch} {e : Env} {R : Room} {s : State} {m : MethodId} {args : Array Value} {below : List Frame} {meth : Method} {c : Code} {Q : State → Prop} {Γ : GE} {σ0 σ : St} {nL pc : Nat} {cc : ByteArray} {own : String} {L L' : List (Nat × Value)} {st : List Value}
theorem gl_arr {U : State} {k : Nat} (hG : Glob Γ U) (h1 : 12 ≤ k) (h2 : k < 20) : ArrOfT U (gA Γ k) (aty k) ∧ va_RA U (gA Γ k) (aty k) := hG.1.2 (k - 12) _ (tysG_at Γ h1 h2)
theorem aty_ref {k : Nat} (h1 : 14 ≤ k) (h2 : k < 20) : ∃ C, aty k = .object C := by
  rcases (by omega : k = 14 ∨ k = 15 ∨ k = 16 ∨ k = 17 ∨ k = 18 ∨ k = 19) with rfl | rfl | rfl | rfl | rfl | rfl <;> exact ⟨_, rfl⟩
/-- an int array's cell, of the run or a static one -/
theorem rep_iarr {H : Heap} {a : Nat} (hG : Glob Γ s) (hR : RepH Γ σ H) (h : hpK σ a = 13 ∨ hpK σ a = 20) : ∃ cell : Cell, H[a]? = some cell ∧ s.isArrayOf cell .int ∧ cell.vm ≠ .unknown ∧ cell.slots.size = hpL σ a ∧ ∀ j, j < hpL σ a → cell.slots[j]? = some (.int (hpA σ a j)) := by
  rcases h with h | h
  · have hc := (rep_at hR (by omega : hpK σ a < 20)).2.2.2.1 (Or.inr h)
    rw [h] at hc
    exact ⟨_, hc, (gl_arr hG (k := 13) (by omega) (by omega)).1 _ _, (fun q => by cases q), by rw [arrV_size], fun j hj => arrV_read _ (fun j => .int (hpA σ a j)) hj⟩
  · obtain ⟨f, h1, h2⟩ := hR.2.2.2.2.2.1 a h
    obtain ⟨hb, cell, h3, h4, h5, h6, h7⟩ := hG.2.2.2.2.2.1 a _ f h1
    exact ⟨cell, by rw [hR.2.2.1 a hb]; exact h3, h4, h5, h6, fun j hj => by rw [h2 j hj]; exact h7 j hj⟩
theorem k_iald (cx : Cx p R s m args c Γ nL σ0 cc own) {a j : Nat} {x : Option Nat} {i : Int32} (hx : dnA σ x = some a) (hi : ix i (hpL σ a) = some j) (hd : decode cc pc = .ok (.iaload, 1)) (h : Ok p l e R s m args below meth c Γ nL Q (pc + 1) L (.int (hpA σ a j) :: st) σ) : Ok p l e R s m args below meth c Γ nL Q pc L (.int i :: va_rf x :: st) σ := by
  intro H locs ls hR hL hls
  obtain ⟨rfl, hk⟩ := dnA_some hx
  obtain ⟨hin, rfl⟩ := ix_some hi
  obtain ⟨cell, h1, h2, h3, h4, h5⟩ := rep_iarr cx.2.2.2.2.2.1 hR hk
  refine W.iald cx.1 cx.2.1 h1 h2 h3 (by rw [h4]; exact hin) (v := .int (hpA σ a i.toNatClampNeg)) (h5 _ (Nat.not_le.mp fun q => hin (Or.inr q))) rfl rfl hd (h H locs ls hR hL hls)
theorem k_alenA (cx : Cx p R s m args c Γ nL σ0 cc own) {a : Nat} {x : Option Nat} (hx : dnA σ x = some a) (hd : decode cc pc = .ok (.arraylength, 1)) (h : Ok p l e R s m args below meth c Γ nL Q (pc + 1) L (.int (nI (hpL σ a)) :: st) σ) : Ok p l e R s m args below meth c Γ nL Q pc L (va_rf x :: st) σ := by
  intro H locs ls hR hL hls
  obtain ⟨rfl, hk⟩ := dnA_some hx
  obtain ⟨cell, h1, h2, h3, h4, h5⟩ := rep_iarr cx.2.2.2.2.2.1 hR hk
  exact W.alen (n := nI (hpL σ a)) cx.1 cx.2.1 h1 h2 (by rw [h4]; rfl) rfl rfl hd (h H locs ls hR hL hls)
theorem k_alen (cx : Cx p R s m args c Γ nL σ0 cc own) {a k : Nat} {x : Option Nat} (hk : 12 ≤ k ∧ k < 20) (hx : dn σ k x = some a) (hd : decode cc pc = .ok (.arraylength, 1)) (h : Ok p l e R s m args below meth c Γ nL Q (pc + 1) L (.int (nI (hpL σ a)) :: st) σ) : Ok p l e R s m args below meth c Γ nL Q pc L (va_rf x :: st) σ := by
  intro H locs ls hR hL hls
  obtain ⟨rfl, rfl⟩ := dn_some hx
  have hat := (rep_at hR hk.2).2.2
  by_cases h14 : 14 ≤ hpK σ a
  · exact W.alen (n := nI (hpL σ a)) cx.1 cx.2.1 (hat.2.2 h14) ((gl_arr cx.2.2.2.2.2.1 hk.1 hk.2).1 _ _) (by rw [arrV_size]; rfl) rfl rfl hd (h H locs ls hR hL hls)
  · exact W.alen (n := nI (hpL σ a)) cx.1 cx.2.1 (hat.2.1 (by omega)) ((gl_arr cx.2.2.2.2.2.1 hk.1 hk.2).1 _ _) (by rw [arrV_size]; rfl) rfl rfl hd (h H locs ls hR hL hls)
theorem k_bald (cx : Cx p R s m args c Γ nL σ0 cc own) {a j : Nat} {x : Option Nat} {i : Int32} (hx : dn σ 12 x = some a) (hi : ix i (hpL σ a) = some j) (hd : decode cc pc = .ok (.baload, 1)) (h : Ok p l e R s m args below meth c Γ nL Q (pc + 1) L (.int (hpA σ a j) :: st) σ) : Ok p l e R s m args below meth c Γ nL Q pc L (.int i :: va_rf x :: st) σ := by
  intro H locs ls hR hL hls
  obtain ⟨rfl, hk⟩ := dn_some hx
  obtain ⟨hin, rfl⟩ := ix_some hi
  have hc := (rep_at hR (by omega : hpK σ a < 20)).2.2.2.1 (Or.inl hk)
  rw [hk] at hc
  exact W.bald (v := .int (hpA σ a i.toNatClampNeg)) cx.1 cx.2.1 hc ((gl_arr cx.2.2.2.2.2.1 (k := 12) (by omega) (by omega)).1 _ _) (fun q => by cases q) (by rw [arrV_size]; exact hin) (arrV_read _ (fun j => .int (hpA σ a j)) (Nat.not_le.mp fun q => hin (Or.inr q))) rfl rfl hd (h H locs ls hR hL hls)
theorem k_aald (cx : Cx p R s m args c Γ nL σ0 cc own) {a j k : Nat} {x : Option Nat} {i : Int32} (hk : 14 ≤ k ∧ k < 20) (hx : dn σ k x = some a) (hi : ix i (hpL σ a) = some j) (hd : decode cc pc = .ok (.aaload, 1)) (h : Ok p l e R s m args below meth c Γ nL Q (pc + 1) L (va_rf (hpB σ a j) :: st) σ) : Ok p l e R s m args below meth c Γ nL Q pc L (.int i :: va_rf x :: st) σ := by
  intro H locs ls hR hL hls
  obtain ⟨rfl, rfl⟩ := dn_some hx
  obtain ⟨hin, rfl⟩ := ix_some hi
  have hc := (rep_at hR hk.2).2.2.2.2 hk.1
  obtain ⟨C, hC⟩ := aty_ref hk.1 hk.2
  exact W.aald (v := va_rf (hpB σ a i.toNatClampNeg)) (ty := aty (hpK σ a)) cx.1 cx.2.1 hc ((gl_arr cx.2.2.2.2.2.1 (by omega) hk.2).1 _ _) (by rw [hC]; rfl) (fun q => by cases q) (by rw [arrV_size]; exact hin) (arrV_read _ (fun j => va_rf (hpB σ a j)) (Nat.not_le.mp fun q => hin (Or.inr q))) rfl rfl hd (h H locs ls hR hL hls)
/-- the state behind a write into an array -/
theorem rep_putA {H H1 : Heap} {a : Nat} {σ1 : St} (hR : RepH Γ σ H) (hk : 12 ≤ hpK σ a ∧ hpK σ a < 20)
    (hN : hpN σ1 = hpN σ) (hC : hpC σ1 = hpC σ) (hS : hpS σ1 = hpS σ) (hK : ∀ b, hpK σ1 b = hpK σ b) (hL : ∀ b, hpL σ1 b = hpL σ b) (hG : ∀ i, hpG σ1 i = hpG σ i) (hV : ∀ b cj j, oV σ1 cj b j = oV σ cj b j)
    (hA : ∀ b j, b ≠ a → hpA σ1 b j = hpA σ b j) (hB : ∀ b j, b ≠ a → hpB σ1 b j = hpB σ b j) {F0 F1 : Nat → Value}
    (h0 : H[a]? = some (arrV (gA Γ (hpK σ a)) (hpL σ a) F0)) (h1 : H1[a]? = some (arrV (gA Γ (hpK σ a)) (hpL σ a) F1)) (hi : (hpK σ a = 12 ∨ hpK σ a = 13) → F1 = fun j => .int (hpA σ1 a j)) (hr : 14 ≤ hpK σ a → F1 = fun j => va_rf (hpB σ1 a j))
    (z : H1.size = H.size) (oq : ∀ q : Nat, q ≠ a → H1[q]? = H[q]?) : RepH Γ σ1 H1 := by
  obtain ⟨r1, r2, r3, r4, r5, r6, r7, r8, r9⟩ := hR
  have hab := r5 a (by omega)
  refine ⟨by rw [z, hN]; exact r1, by rw [hN, hC]; exact r2, fun b hb => by rw [oq b (by omega)]; exact r3 b hb, ?_, fun b hb => ?_, fun b hb => ?_, fun i => by rw [hG]; exact r7 i, by rw [hC]; exact r8, by rw [hS]; exact r9⟩
  · rw [hS, ← r4]
    refine hsz_same z (fun q => ?_)
    by_cases hq : q = a
    · subst hq
      rw [h1, h0]
      simp only [Option.map_some, arrV_size]
    · rw [oq q hq]
  · rw [hK] at hb
    obtain ⟨b1, b2, b3⟩ := r5 b hb
    refine ⟨b1, by rw [hN]; exact b2, ?_⟩
    by_cases hq : b = a
    · subst hq
      refine ⟨fun h => ?_, fun h => ?_, fun h => ?_⟩
      · rw [hK] at h; omega
      · rw [hK] at h ⊢
        rw [h1, hL, hi h]
      · rw [hK] at h ⊢
        rw [h1, hL, hr h]
    · refine ⟨fun h => ?_, fun h => ?_, fun h => ?_⟩
      · rw [hK] at h ⊢
        exact ((b3.1 h).kept (oq b hq)).to (fun j _ => (hV b _ j).symm)
      · rw [hK] at h ⊢
        rw [oq b hq, b3.2.1 h, hL]
        simp only [hA b _ hq]
      · rw [hK] at h ⊢
        rw [oq b hq, b3.2.2 h, hL]
        simp only [hB b _ hq]
  · rw [hK] at hb
    obtain ⟨f, f1, f2⟩ := r6 b hb
    have hne : b ≠ a := fun q => by subst q; omega
    exact ⟨f, by rw [hL]; exact f1, fun j hj => by rw [hA b j hne]; rw [hL] at hj; exact f2 j hj⟩
theorem updV_int (f : Nat → Int32) (a0 j0 : Nat) (v : Int32) (h : ∀ j, hpA σ a0 j = f j) : updV (fun j => .int (f j)) j0 (.int v) = fun j => Value.int (hpA (stA σ a0 j0 v) a0 j) := by
  funext j
  simp only [updV, hpA_stA, h]
  by_cases hj : j = j0
  · simp [hj]
  · simp [hj]
theorem updV_ref (a0 j0 : Nat) (v : Option Nat) : updV (fun j => va_rf (hpB σ a0 j)) j0 (va_rf v) = fun j => va_rf (hpB (stB σ a0 j0 v) a0 j) := by
  funext j
  simp only [updV, hpB_stB]
  by_cases hj : j = j0
  · simp [hj]
  · simp [hj]
theorem loc_app {b : Nat} {locs : List Loc} {x : Loc} (h : ∀ q ∈ locs, b ≤ q.base) (hx : b ≤ x.base) : ∀ q ∈ locs ++ [x], b ≤ q.base := by
  intro q hq
  rcases List.mem_append.mp hq with h1 | h1
  · exact h q h1
  · rw [List.mem_singleton.mp h1]; exact hx
theorem k_iast (cx : Cx p R s m args c Γ nL σ0 cc own) {a j : Nat} {x : Option Nat} {i v : Int32} (hx : dn σ 13 x = some a) (hi : ix i (hpL σ a) = some j) (hd : decode cc pc = .ok (.iastore, 1)) (h : Ok p l e R s m args below meth c Γ nL Q (pc + 1) L st (stA σ a j v)) : Ok p l e R s m args below meth c Γ nL Q pc L (.int v :: .int i :: va_rf x :: st) σ := by
  intro H locs ls hR hL hls
  obtain ⟨rfl, hk⟩ := dn_some hx
  obtain ⟨hin, rfl⟩ := ix_some hi
  have hat := rep_at hR (by omega : hpK σ a < 20)
  have hc := hat.2.2.2.1 (Or.inr hk)
  refine W.iast cx.1 cx.2.1 hc (by rw [hk]; exact (gl_arr cx.2.2.2.2.2.1 (k := 13) (by omega) (by omega)).1 _ _) (fun q => by cases q) (by rw [arrV_size]; exact hin) rfl rfl hd fun H1 e1 e2 e3 => ?_
  rw [arrV_store, updV_int _ a _ v (fun _ => rfl)] at e1
  exact h H1 _ ls (rep_putA (σ1 := stA σ a i.toNatClampNeg v) hR (by omega) rfl rfl rfl (fun _ => rfl) (fun _ => rfl) (fun _ => rfl) (fun _ _ _ => rfl) (fun b j hb => by rw [hpA_stA, if_neg (fun q => hb q.1)]) (fun _ _ _ => rfl) hc e1 (fun _ => rfl) (fun q => by omega) e2 e3) (loc_app hL hat.1) hls
theorem k_bast (cx : Cx p R s m args c Γ nL σ0 cc own) {a j : Nat} {x : Option Nat} {i v : Int32} (hx : dn σ 12 x = some a) (hi : ix i (hpL σ a) = some j) (hd : decode cc pc = .ok (.bastore, 1)) (h : Ok p l e R s m args below meth c Γ nL Q (pc + 1) L st (stA σ a j v.toInt8.toInt32)) : Ok p l e R s m args below meth c Γ nL Q pc L (.int v :: .int i :: va_rf x :: st) σ := by
  intro H locs ls hR hL hls
  obtain ⟨rfl, hk⟩ := dn_some hx
  obtain ⟨hin, rfl⟩ := ix_some hi
  have hat := rep_at hR (by omega : hpK σ a < 20)
  have hc := hat.2.2.2.1 (Or.inl hk)
  refine W.bast cx.1 cx.2.1 hc (by rw [hk]; exact (gl_arr cx.2.2.2.2.2.1 (k := 12) (by omega) (by omega)).1 _ _) (fun q => by cases q) (by rw [arrV_size]; exact hin) rfl rfl hd fun H1 e1 e2 e3 => ?_
  rw [arrV_store] at e1
  have e1 : H1[a]? = some (arrV (gA Γ (hpK σ a)) (hpL σ a) (updV (fun j => .int (hpA σ a j)) i.toNatClampNeg (.int v.toInt8.toInt32))) := e1
  rw [updV_int _ a _ _ (fun _ => rfl)] at e1
  exact h H1 _ ls (rep_putA (σ1 := stA σ a i.toNatClampNeg v.toInt8.toInt32) hR (by omega) rfl rfl rfl (fun _ => rfl) (fun _ => rfl) (fun _ => rfl) (fun _ _ _ => rfl) (fun b j hb => by rw [hpA_stA, if_neg (fun q => hb q.1)]) (fun _ _ _ => rfl) hc e1 (fun _ => rfl) (fun q => by omega) e2 e3) (loc_app hL hat.1) hls
theorem ecl_at {k : Nat} (h1 : 14 ≤ k) (h2 : k < 20) : ecl k < 12 ∧ ∃ (C : String) (T : u_T) (N : Nat), vwCl[ecl k]? = some (C, T, N) ∧ aty k = .object C := by
  rcases (by omega : k = 14 ∨ k = 15 ∨ k = 16 ∨ k = 17 ∨ k = 18 ∨ k = 19) with rfl | rfl | rfl | rfl | rfl | rfl <;> exact ⟨by decide, _, _, _, rfl, rfl⟩
theorem k_aast (cx : Cx p R s m args c Γ nL σ0 cc own) {a j k : Nat} {x v w : Option Nat} {i : Int32} (hk : 14 ≤ k ∧ k < 20) (hx : dn σ k x = some a) (hi : ix i (hpL σ a) = some j) (hv : dm σ (ecl k) v = some w) (hd : decode cc pc = .ok (.aastore, 1)) (h : Ok p l e R s m args below meth c Γ nL Q (pc + 1) L st (stB σ a j v)) : Ok p l e R s m args below meth c Γ nL Q pc L (va_rf v :: .int i :: va_rf x :: st) σ := by
  intro H locs ls hR hL hls
  obtain ⟨rfl, rfl⟩ := dn_some hx
  obtain ⟨hin, rfl⟩ := ix_some hi
  have hat := rep_at hR hk.2
  have hc := hat.2.2.2.2 hk.1
  have hG := cx.2.2.2.2.2.1
  obtain ⟨hecl, C, T, N, hcl, hty⟩ := ecl_at hk.1 hk.2
  have hgo : ∀ H1 : Heap, H1[a]? = some ((arrV (gA Γ (hpK σ a)) (hpL σ a) (fun j => va_rf (hpB σ a j))).setSlot i.toNatClampNeg (va_rf v)) → H1.size = H.size → (∀ q, q ≠ a → H1[q]? = H[q]?) → W p l e R s m args below meth c H1 (locs ++ [⟨a, i.toNatClampNeg⟩]) R.cells R.slots Q (F0 m (pc + 1) ls st) := by
    intro H1 e1 e2 e3
    rw [arrV_store, updV_ref] at e1
    exact h H1 _ ls (rep_putA (σ1 := stB σ a i.toNatClampNeg v) hR (by omega) rfl rfl rfl (fun _ => rfl) (fun _ => rfl) (fun _ => rfl) (fun _ _ _ => rfl) (fun _ _ _ => rfl) (fun b j hb => by rw [hpB_stB, if_neg (fun q => hb q.1)]) hc e1 (fun q => by omega) (fun _ => rfl) e2 e3) (loc_app hL hat.1) hls
  have harr := gl_arr hG (by omega : 12 ≤ hpK σ a) hk.2
  rw [hty] at harr
  cases v with
  | none => exact va_WaastN (C := C) cx.1 cx.2.1 hc (harr.1 _ _) (fun q => by cases q) (by rw [arrV_size]; exact hin) rfl rfl hd hgo
  | some b =>
    have hkb := (dm_some hv).2 b rfl
    obtain ⟨cellV, g1, g2, g3, -⟩ := (rep_at hR (by omega : hpK σ b < 20)).2.2.1 (by omega)
    rw [hkb] at g2
    have hcls := (hG.1.1 (ecl (hpK σ a)) _ hcl).2
    obtain ⟨kA, comp, k1, k2, k3, -⟩ := harr.2
    have hcomp : comp = (gD Γ).1 (ecl (hpK σ a)) := Option.some.inj (k3.symm.trans hcls.1)
    subst hcomp
    obtain ⟨kC, hkC, -⟩ := hcls.2
    exact W.aast cx.1 cx.2.1 hc (fun q h => by cases h) (fun h => by cases h) k1 k2 rfl hkC ⟨fun q => hin (Or.inl q), by show _ < (arrV _ _ _).slots.size; rw [arrV_size]; exact Nat.not_le.mp fun q => hin (Or.inr q)⟩ g1 (fun q h => by rw [g3] at h; cases h) (by rw [g2]; exact hkC) (by rw [g2]; exact va_assign hcls) rfl rfl hd hgo
/-- the state behind a new cell -/
theorem rep_new {H : Heap} {k len sz : Nat} {x : Cell} (hR : RepH Γ σ H) (hk : k < 20) (hsz : x.slots.size = sz) (hb1 : hpC σ + 1 ≤ NX) (hb2 : hpS σ + sz ≤ SX) (hc : CellAt Γ (nw σ k len sz) (H.push x) (hpN σ)) : RepH Γ (nw σ k len sz) (H.push x) := by
  obtain ⟨r1, r2, r3, r4, r5, r6, r7, r8, r9⟩ := hR
  have hold : ∀ q : Nat, q < hpN σ → (H.push x)[q]? = H[q]? := fun q hq => by
    rw [Array.getElem?_push, if_neg (by omega)]
  refine ⟨by rw [Array.size_push, hpN_nw, r1], by rw [hpN_nw, hpC_nw]; omega, fun b hb => by rw [hold b (by omega)]; exact r3 b hb, ?_, fun b hb => ?_, fun b hb => ?_, fun i => r7 i, by rw [hpC_nw]; exact hb1, by rw [hpS_nw]; exact hb2⟩
  · rw [hsz_push (by omega), r4, hsz]; rfl
  · by_cases hbn : b = hpN σ
    · subst hbn
      exact ⟨by omega, by rw [hpN_nw]; omega, hc⟩
    · rw [hpK_nw, if_neg hbn] at hb
      obtain ⟨b1, b2, b3⟩ := r5 b hb
      refine ⟨b1, by rw [hpN_nw]; omega, ?_⟩
      unfold CellAt
      simp only [hpK_nw, hpL_nw, hpA_nw, hpB_nw, if_neg hbn]
      refine ⟨fun h => ((b3.1 h).kept (hold b b2)).to (fun j _ => ?_), fun h => ?_, fun h => ?_⟩
      · simp only [oV, hpI_nw, hpR_nw, hpJ_nw, if_neg hbn]
      · rw [hold b b2]; exact b3.2.1 h
      · rw [hold b b2]; exact b3.2.2 h
  · by_cases hbn : b = hpN σ
    · rw [hpK_nw, if_pos hbn] at hb; omega
    · rw [hpK_nw, if_neg hbn] at hb
      obtain ⟨f, f1, f2⟩ := r6 b hb
      simp only [hpL_nw, hpA_nw, if_neg hbn]
      exact ⟨f, f1, f2⟩
/-- 'new' of class ci -/
def NWc (own : String) (idx ci : Nat) : Prop := ∃ (C : String) (T : u_T) (N : Nat) (ty : Nat → FieldType), (vwCl[ci]? = some (C, T, N) ∧ ci < 12 ∧ nfl ci = N) ∧ (∀ w ∈ u_ws C T N, w ∈ TBL) ∧ (Cond.classLink own idx C ∈ TBL ∧ Cond.instantiable C N ∈ TBL ∧ Cond.initialized C ∈ TBL) ∧ (∀ k, k < N → parseFieldDescriptor (T k).2.2.1 = some (ty k)) ∧ ∀ k, k < N → defaultValue (ty k) = (match fty ci k with | 0 => Value.int 0 | 1 => .null | _ => .long 0)
theorem k_new (cx : Cx p R s m args c Γ nL σ0 cc own) {idx ci : Nat} {σ1 : St} (hn : NWc own idx ci) (hw : nwO σ ci = some σ1) (hd : decode cc pc = .ok (.new idx, 3)) (h : Ok p l e R s m args below meth c Γ nL Q (pc + 3) L (va_rf (some (hpN σ)) :: st) σ1) : Ok p l e R s m args below meth c Γ nL Q pc L st σ := by
  intro H locs ls hR hL hls
  obtain ⟨⟨hb1, hb2⟩, rfl⟩ := nwO_some hw
  obtain ⟨C, T, N, ty, ⟨hc, hci, hN⟩, hin, ⟨hl1, hl2, hl3⟩, hty, hdv⟩ := hn
  have hts := cx.2.2.2.2.1
  intro T0 hT X
  obtain ⟨X1, m1, m2⟩ := st_tight cx.2.2.2.2.2.2.1 hR hT X
  have hrc := cx.2.2.2.2.2.2.2
  refine W.newc cx.1 cx.2.1 cx.2.2.2.1 (hts _ hl1) (hts _ hl2) (hts _ hl3) (g := F0 m pc ls st) rfl hd (by omega) (by omega) (fun cC kC f1 f2 f3 f4 => ?_) T0 hT X1
  refine W.widen (k := R.cells) (n := R.slots) (by omega) (by omega) ?_
  have hKn := cx.2.2.2.2.2.1.1.1 ci _ hc
  have hcc : (gD Γ).1 ci = cC := Option.some.inj (hKn.2.1.symm.trans f1)
  have hHn : H.size = hpN σ := hR.1
  rw [hHn]
  refine h _ locs ls (rep_new hR (by omega) (by rw [hN]; simpa using f4) hb1 hb2 ?_) hL hls
  have hKat : hpK (nw σ ci 0 (nfl ci)) (hpN σ) = ci := by rw [hpK_nw, if_pos rfl]
  refine ⟨fun _ => ?_, fun h9 => ?_, fun h9 => ?_⟩
  · rw [hKat, hN]
    have hcell : (H.push { cls := cC, slots := kC.instanceTypes.map defaultValue, vm := .none })[hpN σ]? = some (blank ((gD Γ).1 ci) kC) := by
      rw [← hHn, hcc]; simp [blank]
    refine (u_born ty hts hin hKn (by rw [hcc]; exact f2) hcell hty).to (fun j hj => ?_)
    rw [hdv j hj]
    simp only [oV, hpI_nw, hpR_nw, hpJ_nw, if_pos]
    rfl
  · rw [hKat] at h9; omega
  · rw [hKat] at h9; omega
theorem k_newarr (cx : Cx p R s m args c Γ nL σ0 cc own) {atype : ArrayType} {k : Nat} {n : Int32} {σ1 : St} (hk : (k = 12 ∧ atype = .byte) ∨ (k = 13 ∧ atype = .int)) (hw : nwA σ k n = some σ1) (hc : Cond.arrayClass (newarray.typeOf atype) ∈ TBL) (hd : decode cc pc = .ok (.newarray atype, 2)) (h : Ok p l e R s m args below meth c Γ nL Q (pc + 2) L (va_rf (some (hpN σ)) :: st) σ1) : Ok p l e R s m args below meth c Γ nL Q pc L (.int n :: st) σ := by
  intro H locs ls hR hL hls
  obtain ⟨hn0, hn1, ⟨hb1, hb2⟩, rfl⟩ := nwA_some hw
  have hts := cx.2.2.2.2.1
  intro T0 hT X
  obtain ⟨X1, m1, m2⟩ := st_tight cx.2.2.2.2.2.2.1 hR hT X
  have hrc := cx.2.2.2.2.2.2.2
  have hcb : componentBytes (newarray.typeOf atype) ≤ 4 := by rcases hk with ⟨-, rfl⟩ | ⟨-, rfl⟩ <;> decide
  refine W.newa cx.1 cx.2.1 (hts _ hc) (g := F0 m pc ls (.int n :: st)) rfl hd rfl hn0 (Nat.le_trans (Nat.mul_le_mul hn1 hcb) (by omega)) (by omega) (by omega) (fun cA kA comp f1 f2 f3 => ?_) T0 hT X1
  refine W.widen (k := R.cells) (n := R.slots) (by omega) (by omega) ?_
  have hk12 : 12 ≤ k ∧ k < 14 := by omega
  have hra := (gl_arr cx.2.2.2.2.2.1 (k := k) (by omega) (by omega)).2
  have hcA : gA Γ k = cA := by
    rcases hk with ⟨rfl, rfl⟩ | ⟨rfl, rfl⟩ <;> exact Option.some.inj (hra.symm.trans f1)
  have hHn : H.size = hpN σ := hR.1
  rw [hHn]
  refine h _ locs ls (rep_new hR (by omega) (by simp) hb1 hb2 ?_) hL hls
  have hKat : hpK (nw σ k n.toNatClampNeg n.toNatClampNeg) (hpN σ) = k := by rw [hpK_nw, if_pos rfl]
  refine ⟨fun h9 => ?_, fun _ => ?_, fun h9 => ?_⟩
  · rw [hKat] at h9; omega
  · rw [hKat, hpL_nw, if_pos rfl]
    simp only [hpA_nw, if_pos]
    rw [← hHn, Array.getElem?_push_size, hcA]
    rcases hk with ⟨rfl, rfl⟩ | ⟨rfl, rfl⟩ <;> exact congrArg some (arrV_new _ _ _)
  · rw [hKat] at h9; omega
theorem k_anew (cx : Cx p R s m args c Γ nL σ0 cc own) {idx k : Nat} {n : Int32} {C : String} {σ1 : St} (hk : 14 ≤ k ∧ k < 20) (hC : aty k = .object C) (hl : Cond.classLink own idx C ∈ TBL) (hw : nwA σ k n = some σ1) (hd : decode cc pc = .ok (.anewarray idx, 3)) (h : Ok p l e R s m args below meth c Γ nL Q (pc + 3) L (va_rf (some (hpN σ)) :: st) σ1) : Ok p l e R s m args below meth c Γ nL Q pc L (.int n :: st) σ := by
  intro H locs ls hR hL hls
  obtain ⟨hn0, hn1, ⟨hb1, hb2⟩, rfl⟩ := nwA_some hw
  have hts := cx.2.2.2.2.1
  intro T0 hT X
  obtain ⟨X1, m1, m2⟩ := st_tight cx.2.2.2.2.2.2.1 hR hT X
  have hrc := cx.2.2.2.2.2.2.2
  refine W.anew cx.1 cx.2.1 cx.2.2.2.1 (hts _ hl) (va_AO.use (cx.2.2.2.2.2.1.2.2.2.1 k hk.1 hk.2 C hC)) (g := F0 m pc ls (.int n :: st)) rfl hd rfl hn0 (by omega) (by omega) (by omega) (fun cA kA comp f1 f2 f3 f4 => ?_) T0 hT X1
  refine W.widen (k := R.cells) (n := R.slots) (by omega) (by omega) ?_
  have hra := (gl_arr cx.2.2.2.2.2.1 (k := k) (by omega) (by omega)).2
  rw [hC] at hra
  obtain ⟨_, _, _, _, _, hra5⟩ := hra
  have hcA : gA Γ k = cA := Option.some.inj (hra5.symm.trans f1)
  have hHn : H.size = hpN σ := hR.1
  rw [hHn]
  refine h _ locs ls (rep_new hR (by omega) (by simp) hb1 hb2 ?_) hL hls
  have hKat : hpK (nw σ k n.toNatClampNeg n.toNatClampNeg) (hpN σ) = k := by rw [hpK_nw, if_pos rfl]
  refine ⟨fun h9 => ?_, fun h9 => ?_, fun _ => ?_⟩
  · rw [hKat] at h9; omega
  · rw [hKat] at h9; omega
  · rw [hKat, hpL_nw, if_pos rfl]
    simp only [hpB_nw, if_pos]
    rw [← hHn, Array.getElem?_push_size, hcA]
    exact congrArg some (arrV_new _ _ _)
end OKA
end
section
section OKC
variable {p : Program} {l : Launch} {e : Env} {R : Room} {s : State} {m : MethodId} {args : Array Value} {below : List Frame} {meth : Method} {c : Code} {Q : State → Prop} {Γ : GE} {σ0 σ : St} {nL pc : Nat} {cc : ByteArray} {own : String} {L L' : List (Nat × Value)} {st : List Value}
/-- what a method's end must be: it answers rv, and the heap is what σ1 says -/
def Qr (Γ : GE) (rv : Option Value) (σ1 : St) : Array Value → State → Outcome → State → Prop := fun _ _ o t => o = .returned rv ∧ RepH Γ σ1 t.heap
abbrev rmO (fr lo : Nat) (σ : St) : Room := { frames := fr, cells := NX - hpC σ, slots := SX - hpS σ, locals := lo }
/-- a method's contract: from the arguments av and a heap as σ says it answers rv, and leaves the heap as σ1 says -/
def Ct (Γ : GE) (y : MethodName) (b : ByteArray) (mL : Nat) (ret : Option FieldType) (fr lo : Nat) (av : List Value) (σ : St) (rv : Option Value) (σ1 : St) : Prop :=
  ∀ l : Launch, Met l y (Cond.code y b mL ret :: TBL) (rmO fr lo σ) (va_Pc av (fun U => RepH Γ σ U.heap ∧ Glob Γ U)) (Qr Γ rv σ1) (NX - hpC σ) (SX - hpS σ) (fun q => gB Γ ≤ q)
theorem blindP {av : List Value} : FrameBlind (va_Pc av (fun U => RepH Γ σ U.heap ∧ Glob Γ U)) := fun _ U g mk h => ⟨h.1, h.2.1, Glob.warm (s := U) (U := U.calling g mk _) (State.WarmedH.refl U) h.2.2⟩
theorem ct_intro {y : MethodName} {b : ByteArray} {mL fr lo : Nat} {ret : Option FieldType} {av : List Value} {rv : Option Value} {σ1 : St} {L0 : List (Nat × Value)} (hy : plainName y.cls = true) (hown : y.cls = own) (hlen : (lg_sl av).length ≤ mL) (hargs : lv_args 0 av = L0)
    (body : ∀ (p : Program) (l : Launch) (e : Env) (s : State) (m : MethodId) (args : Array Value) (below : List Frame) (meth : Method) (c : Code), meth.sig.returnType = ret → meth.locks = false → meth.name = y.name → Cx p (rmO fr lo σ) s m args c Γ mL σ b own → Ok p l e (rmO fr lo σ) s m args below meth c Γ mL (MQ below (Qr Γ rv σ1) args s (NX - hpC σ) (SX - hpS σ) (fun q => gB Γ ≤ q)) 0 L0 [] σ) : Ct Γ y b mL ret fr lo av σ rv σ1 := by
  intro l
  refine Met.ofW (cc := b) (maxL := mL) (ret := ret) hy rfl ?_
  intro p e s m args below meth c s₁ B hml hv
  obtain ⟨rfl, hR, hG⟩ := hv
  have hts := atoms_spec (ws := Cond.code y b mL ret :: TBL) B.pre
  have hin : meth.name = y.name := (name_of_methodNamed B.named B.method).1
  have hown' : s.vm.findClass own = some m.cls := by rw [← hown]; exact findClass_of_methodNamed B.named
  have cx : Cx p (rmO fr lo σ) s m av.toArray c Γ mL σ b own := ⟨B.exec, B.bytes, hml, hown', fun w hw => hts w (List.mem_cons_of_mem _ hw), hG, hR, rfl, rfl⟩
  have hOk := body p l e s m av.toArray below meth c B.returns B.notSynchronized hin cx
  have hl := lv_entry av (n := mL) hlen
  rw [lg_entry_eq]
  rw [hargs] at hl
  exact W.widen (Nat.zero_le _) (Nat.zero_le _) (hOk s.heap [] _ hR (fun q h => by cases h) hl)
/-- a call's end, whatever the kind of call -/
theorem k_run (cx : Cx p R s m args c Γ nL σ0 cc own) {rv : Option Value} {σ1 : St} {st0 : List Value} {a : Array Value}
    (hr : ∀ (H : Heap) (locs : List Loc) (ls : Array Slot), RepH Γ σ H → lv_has ls nL L → hpC σ0 ≤ hpC σ → hpS σ0 ≤ hpS σ → va_Run p l e R s m args below meth c H locs (hpC σ - hpC σ0) (hpS σ - hpS σ0) (NX - hpC σ) (SX - hpS σ) (F0 m pc ls st0) st (Qr Γ rv σ1 a) (fun q => gB Γ ≤ q))
    (h : Ok p l e R s m args below meth c Γ nL Q (pc + 3) L (rv.toList ++ st) σ1) : Ok p l e R s m args below meth c Γ nL Q pc L st0 σ := by
  intro H locs ls hR hL hls T hT X
  obtain ⟨X1, m1, m2⟩ := st_tight cx.2.2.2.2.2.2.1 hR hT X
  obtain ⟨v, st₀, t, T', L2, h0, X', hL2, e1, e2, ⟨hv, hr2⟩, go⟩ := hr H locs ls hR hls m1 m2 T hT X1
  cases hv
  have hrc := cx.2.2.2.2.2.2.2
  have h8 := hR.2.2.2.2.2.2.2
  obtain ⟨t2, a1, b1⟩ := h T'.heap (locs ++ L2) ls (by rw [e1]; exact hr2) (fun q hq => by
    rcases List.mem_append.mp hq with h9 | h9
    · exact hL q h9
    · exact hL2 q h9) hls T' rfl (stand_widen X' (by omega) (by omega))
  exact ⟨t2, go t2 a1, b1⟩
/-- what a call of an instance method needs of the tables: link, method, selection, code -/
def IV (own : String) (idx : Nat) (C : String) (y : MethodName) (b : ByteArray) (mL : Nat) (ret : Option FieldType) (n : Nat) : Prop :=
  (Cond.methodLink own idx y ∈ TBL ∧ Cond.instanceMethod y ∈ TBL ∧ Cond.selects C y y ∈ TBL ∧ Cond.initialized C ∈ TBL ∧ Cond.code y b mL ret ∈ TBL) ∧ y.cls = C ∧ y.cls ≠ "java/lang/invoke/MethodHandle" ∧ y.cls ≠ "java/lang/invoke/VarHandle" ∧ (parseMethodDescriptor y.desc).map (fun d => d.parameters.length) = some n
def IS (own : String) (idx : Nat) (y : MethodName) (b : ByteArray) (mL : Nat) (ret : Option FieldType) (n : Nat) : Prop :=
  (Cond.methodLink own idx y ∈ TBL ∧ Cond.static y ∈ TBL ∧ Cond.initialized y.cls ∈ TBL ∧ Cond.code y b mL ret ∈ TBL) ∧ y.cls ≠ "java/lang/invoke/MethodHandle" ∧ y.cls ≠ "java/lang/invoke/VarHandle" ∧ (parseMethodDescriptor y.desc).map (fun d => d.parameters.length) = some n
/-- a static method of a nest mate that is private -/
def ISN (own : String) (idx : Nat) (y : MethodName) (b : ByteArray) (mL : Nat) (ret : Option FieldType) (n : Nat) : Prop :=
  (own, idx, y) ∈ NMl ∧ (Cond.static y ∈ TBL ∧ Cond.initialized y.cls ∈ TBL ∧ Cond.code y b mL ret ∈ TBL) ∧ y.cls ≠ "java/lang/invoke/MethodHandle" ∧ y.cls ≠ "java/lang/invoke/VarHandle" ∧ (parseMethodDescriptor y.desc).map (fun d => d.parameters.length) = some n
def II (own : String) (idx : Nat) (y : MethodName) (b : ByteArray) (mL : Nat) (n : Nat) : Prop :=
  (Cond.methodLink own idx y ∈ TBL ∧ Cond.instanceMethod y ∈ TBL ∧ Cond.initialized y.cls ∈ TBL ∧ Cond.code y b mL none ∈ TBL) ∧ y.name = "<init>" ∧ y.cls ≠ "java/lang/invoke/MethodHandle" ∧ y.cls ≠ "java/lang/invoke/VarHandle" ∧ (parseMethodDescriptor y.desc).map (fun d => d.parameters.length) = some n
def IIN (own : String) (idx : Nat) (y : MethodName) (b : ByteArray) (mL : Nat) (n : Nat) : Prop :=
  (own, idx, y) ∈ NMl ∧ (Cond.instanceMethod y ∈ TBL ∧ Cond.initialized y.cls ∈ TBL ∧ Cond.code y b mL none ∈ TBL) ∧ y.name = "<init>" ∧ y.cls ≠ "java/lang/invoke/MethodHandle" ∧ y.cls ≠ "java/lang/invoke/VarHandle" ∧ (parseMethodDescriptor y.desc).map (fun d => d.parameters.length) = some n
theorem gi_code {y : MethodName} {b : ByteArray} {mL : Nat} {ret : Option FieldType} (h : Cond.code y b mL ret ∈ TBL) : GoodIn TBL (Cond.code y b mL ret :: TBL) := tb_good (fun w hw => by
  rcases List.mem_cons.mp hw with rfl | h1
  · exact h
  · exact h1)
theorem rp_pre {av : List Value} {H : Heap} (cx : Cx p R s m args c Γ nL σ0 cc own) (hR : RepH Γ σ H) : ∀ U : State, U.heap = H → s.WarmedH U.vm → va_Pc av (fun U => RepH Γ σ U.heap ∧ Glob Γ U) av.toArray U := fun U hU hW => ⟨rfl, by rw [hU]; exact hR, Glob.warm hW cx.2.2.2.2.2.1⟩
theorem k_callV (cx : Cx p R s m args c Γ nL σ0 cc own) {idx ci a : Nat} {C : String} {T : u_T} {N : Nat} {y : MethodName} {b : ByteArray} {mL n fr lo : Nat} {ret : Option FieldType} {As st0 : List Value} {x : Option Nat} {rv : Option Value} {σ1 : St} (iv : IV own idx C y b mL ret n) (hc : vwCl[ci]? = some (C, T, N)) (hci : ci < 12) (ct : Ct Γ y b mL ret fr lo (va_rf (some a) :: As) σ rv σ1) (hx : dn σ ci x = some a) (hst : st0 = As.reverse ++ va_rf x :: st) (hn : As.length = n) (hfr : fr + 1 ≤ R.frames ∧ 8 + (mL + 11) + lo ≤ R.locals) (hw : (st.map fun v => v.category).sum ≤ 8) (hd : decode cc pc = .ok (.invokevirtual idx, 3)) (h : Ok p l e R s m args below meth c Γ nL Q (pc + 3) L (rv.toList ++ st) σ1) : Ok p l e R s m args below meth c Γ nL Q pc L st0 σ := by
  obtain ⟨rfl, hk⟩ := dn_some hx
  subst hst
  obtain ⟨⟨w1, w2, w3, w4, w5⟩, d1, d2, d3, d4⟩ := iv
  have hts := cx.2.2.2.2.1
  refine k_run (a := (va_rf (some a) :: As).toArray) cx (fun H locs ls hR hls m1 m2 => ?_) h
  have hcell := (rep_at hR (by omega : hpK σ a < 20)).2.2.1 (by omega)
  rw [hk] at hcell
  obtain ⟨cell, q1, q2, q3, -⟩ := hcell
  have hrc := cx.2.2.2.2.2.2.2
  have h8 := hR.2.2.2.2.2.2.2
  exact va_runV (As := As) (rest := st) ⟨cx.1, cx.2.1, cx.2.2.1, cx.2.2.2.1, hts⟩ (ct l) ⟨callB_of n hts (gi_code w5) rfl rfl rfl (by rw [d1]; exact hts _ w4) (hts _ w1) ⟨d2, d3, d4⟩ hfr, hts _ w2, hts _ w3⟩ ⟨blindP, ⟨cell, q1, by rw [q3]; rfl, by rw [q2]; exact (cx.2.2.2.2.2.1.1.1 ci _ hc).2.1⟩, rp_pre cx hR⟩ rfl hn hls.1 rfl (lv_room hw) hd ⟨by omega, by omega⟩
theorem k_callS (cx : Cx p R s m args c Γ nL σ0 cc own) {idx : Nat} {y : MethodName} {b : ByteArray} {mL n fr lo : Nat} {ret : Option FieldType} {As st0 : List Value} {rv : Option Value} {σ1 : St} (iv : IS own idx y b mL ret n) (ct : Ct Γ y b mL ret fr lo As σ rv σ1) (hst : st0 = As.reverse ++ st) (hn : As.length = n) (hfr : fr + 1 ≤ R.frames ∧ 8 + (mL + 11) + lo ≤ R.locals) (hw : (st.map fun v => v.category).sum ≤ 8) (hd : decode cc pc = .ok (.invokestatic idx, 3)) (h : Ok p l e R s m args below meth c Γ nL Q (pc + 3) L (rv.toList ++ st) σ1) : Ok p l e R s m args below meth c Γ nL Q pc L st0 σ := by
  subst hst
  obtain ⟨⟨w1, w2, w3, w4⟩, d2, d3, d4⟩ := iv
  have hts := cx.2.2.2.2.1
  refine k_run (a := As.toArray) cx (fun H locs ls hR hls m1 m2 => ?_) h
  have hrc := cx.2.2.2.2.2.2.2
  have h8 := hR.2.2.2.2.2.2.2
  exact va_runS (As := As) (rest := st) ⟨cx.1, cx.2.1, cx.2.2.1, cx.2.2.2.1, hts⟩ (ct l) ⟨callB_of n hts (gi_code w4) rfl rfl rfl (hts _ w3) (hts _ w1) ⟨d2, d3, d4⟩ hfr, hts _ w2⟩ ⟨blindP, rp_pre cx hR⟩ rfl hn hls.1 rfl (lv_room hw) hd ⟨by omega, by omega⟩
theorem k_callSN (cx : Cx p R s m args c Γ nL σ0 cc own) {idx : Nat} {y : MethodName} {b : ByteArray} {mL n fr lo : Nat} {ret : Option FieldType} {As st0 : List Value} {rv : Option Value} {σ1 : St} (iv : ISN own idx y b mL ret n) (ct : Ct Γ y b mL ret fr lo As σ rv σ1) (hst : st0 = As.reverse ++ st) (hn : As.length = n) (hfr : fr + 1 ≤ R.frames ∧ 8 + (mL + 11) + lo ≤ R.locals) (hw : (st.map fun v => v.category).sum ≤ 8) (hd : decode cc pc = .ok (.invokestatic idx, 3)) (h : Ok p l e R s m args below meth c Γ nL Q (pc + 3) L (rv.toList ++ st) σ1) : Ok p l e R s m args below meth c Γ nL Q pc L st0 σ := by
  subst hst
  obtain ⟨hN, ⟨w2, w3, w4⟩, d2, d3, d4⟩ := iv
  have hts := cx.2.2.2.2.1
  refine k_run (a := As.toArray) cx (fun H locs ls hR hls m1 m2 => ?_) h
  have hrc := cx.2.2.2.2.2.2.2
  have h8 := hR.2.2.2.2.2.2.2
  exact va_runSN (As := As) (rest := st) (host := RX10) ⟨cx.1, cx.2.1, cx.2.2.1, cx.2.2.2.1, hts⟩ (ct l) ⟨va_cnB n hts (gi_code w4) rfl rfl rfl (cx.2.2.2.2.2.1.2.1 _ hN) (hts _ w3) ⟨d2, d3, d4⟩ hfr, hts _ w2, trivial⟩ ⟨blindP, rp_pre cx hR⟩ rfl hn hls.1 rfl (lv_room hw) hd ⟨by omega, by omega⟩
theorem k_callI (cx : Cx p R s m args c Γ nL σ0 cc own) {idx a : Nat} {y : MethodName} {b : ByteArray} {mL n fr lo : Nat} {As st0 : List Value} {x : Option Nat} {σ1 : St} (iv : II own idx y b mL n) (ct : Ct Γ y b mL none fr lo (va_rf (some a) :: As) σ none σ1) (hx : x = some a) (hst : st0 = As.reverse ++ va_rf x :: st) (hn : As.length = n) (hfr : fr + 1 ≤ R.frames ∧ 8 + (mL + 11) + lo ≤ R.locals) (hw : (st.map fun v => v.category).sum ≤ 8) (hd : decode cc pc = .ok (.invokespecial idx, 3)) (h : Ok p l e R s m args below meth c Γ nL Q (pc + 3) L st σ1) : Ok p l e R s m args below meth c Γ nL Q pc L st0 σ := by
  subst hx
  subst hst
  obtain ⟨⟨w1, w2, w3, w4⟩, d1, d2, d3, d4⟩ := iv
  have hts := cx.2.2.2.2.1
  refine k_run (a := (va_rf (some a) :: As).toArray) (rv := none) cx (fun H locs ls hR hls m1 m2 => ?_) h
  have hrc := cx.2.2.2.2.2.2.2
  have h8 := hR.2.2.2.2.2.2.2
  exact va_runI (As := As) (rest := st) ⟨cx.1, cx.2.1, cx.2.2.1, cx.2.2.2.1, hts⟩ (ct l) ⟨callB_of n hts (gi_code w4) rfl rfl rfl (hts _ w3) (hts _ w1) ⟨d2, d3, d4⟩ hfr, d1, hts _ w2⟩ ⟨blindP, rp_pre cx hR⟩ rfl hn hls.1 rfl (lv_room hw) hd ⟨by omega, by omega⟩
theorem k_callIN (cx : Cx p R s m args c Γ nL σ0 cc own) {idx a : Nat} {y : MethodName} {b : ByteArray} {mL n fr lo : Nat} {As st0 : List Value} {x : Option Nat} {σ1 : St} (iv : IIN own idx y b mL n) (ct : Ct Γ y b mL none fr lo (va_rf (some a) :: As) σ none σ1) (hx : x = some a) (hst : st0 = As.reverse ++ va_rf x :: st) (hn : As.length = n) (hfr : fr + 1 ≤ R.frames ∧ 8 + (mL + 11) + lo ≤ R.locals) (hw : (st.map fun v => v.category).sum ≤ 8) (hd : decode cc pc = .ok (.invokespecial idx, 3)) (h : Ok p l e R s m args below meth c Γ nL Q (pc + 3) L st σ1) : Ok p l e R s m args below meth c Γ nL Q pc L st0 σ := by
  subst hx
  subst hst
  obtain ⟨hN, ⟨w2, w3, w4⟩, d1, d2, d3, d4⟩ := iv
  have hts := cx.2.2.2.2.1
  refine k_run (a := (va_rf (some a) :: As).toArray) (rv := none) cx (fun H locs ls hR hls m1 m2 => ?_) h
  have hrc := cx.2.2.2.2.2.2.2
  have h8 := hR.2.2.2.2.2.2.2
  exact va_runIN (As := As) (rest := st) (host := RX10) ⟨cx.1, cx.2.1, cx.2.2.1, cx.2.2.2.1, hts⟩ (ct l) ⟨va_cnB n hts (gi_code w4) rfl rfl rfl (cx.2.2.2.2.2.1.2.1 _ hN) (hts _ w3) ⟨d2, d3, d4⟩ hfr, d1, hts _ w2⟩ ⟨blindP, rp_pre cx hR⟩ rfl hn hls.1 rfl (lv_room hw) hd ⟨by omega, by omega⟩
theorem k_objInit (cx : Cx p R s m args c Γ nL σ0 cc own) {idx : Nat} {a : Nat} (hl : Cond.methodLink own idx Lib.objectInit ∈ TBL) (hi : Cond.instanceMethod Lib.objectInit ∈ TBL) (hc : Cond.code Lib.objectInit ⟨#[0xb1]⟩ 1 none ∈ TBL) (hfr : 1 ≤ R.frames ∧ 20 ≤ R.locals) (hw : (st.map fun v => v.category).sum ≤ 8) (hd : decode cc pc = .ok (.invokespecial idx, 3)) (h : Ok p l e R s m args below meth c Γ nL Q (pc + 3) L st σ) : Ok p l e R s m args below meth c Γ nL Q pc L (va_rf (some a) :: st) σ := by
  intro H locs ls hR hL hls
  have hts := cx.2.2.2.2.1
  have hrm := lv_room (m := m) (pc := pc) (ls := ls) (rest := va_rf (some a) :: st) hw
  exact W.objInit cx.1 cx.2.1 cx.2.2.2.1 (hts _ hl) (hts _ hi) (hts _ hc) (g := F0 m pc ls (va_rf (some a) :: st)) rfl (by rw [cx.2.2.1]; exact hls.1) rfl hd hfr.1 (by omega) (h H locs ls hR hL hls)
-- returns
theorem k_iret (cx : Cx p R s m args c Γ nL σ0 cc own) (hr : meth.sig.returnType = some .int) (hlk : meth.locks = false) {v : Int32} {rv : Option Value} {σ1 : St} (hv : rv = some (.int v)) (hσ : σ1 = σ) (hd : decode cc pc = .ok (.ireturn, 1)) : Ok p l e R s m args below meth c Γ nL (MQ below (Qr Γ rv σ1) args s R.cells R.slots (fun q => gB Γ ≤ q)) pc L [.int v] σ := by
  subst hv; subst hσ
  exact fun H locs ls hR hL hls => W.iret cx.1 cx.2.1 hr (fun t ht _ => ⟨rfl, by rw [ht]; exact hR⟩) hL hd hlk
theorem k_zret (cx : Cx p R s m args c Γ nL σ0 cc own) (hr : meth.sig.returnType = some .boolean) (hlk : meth.locks = false) {v w : Int32} {rv : Option Value} {σ1 : St} (hz : gz v = some w) (hv : rv = some (.int v)) (hσ : σ1 = σ) (hd : decode cc pc = .ok (.ireturn, 1)) : Ok p l e R s m args below meth c Γ nL (MQ below (Qr Γ rv σ1) args s R.cells R.slots (fun q => gB Γ ≤ q)) pc L [.int v] σ := by
  subst hv; subst hσ
  exact fun H locs ls hR hL hls => W.zret cx.1 cx.2.1 hr (gz_narrow hz).1 (fun t ht _ => ⟨rfl, by rw [ht]; exact hR⟩) hL hd hlk
theorem k_lret (cx : Cx p R s m args c Γ nL σ0 cc own) (hr : meth.sig.returnType = some .long) (hlk : meth.locks = false) {v : Int64} {rv : Option Value} {σ1 : St} (hv : rv = some (.long v)) (hσ : σ1 = σ) (hd : decode cc pc = .ok (.lreturn, 1)) : Ok p l e R s m args below meth c Γ nL (MQ below (Qr Γ rv σ1) args s R.cells R.slots (fun q => gB Γ ≤ q)) pc L [.long v] σ := by
  subst hv; subst hσ
  exact fun H locs ls hR hL hls => W.lret cx.1 cx.2.1 hr (fun t ht _ => ⟨rfl, by rw [ht]; exact hR⟩) hL hd hlk
theorem k_vret (cx : Cx p R s m args c Γ nL σ0 cc own) (hr : meth.sig.returnType = none) (hlk : meth.locks = false) {rv : Option Value} {σ1 : St} (hv : rv = none) (hσ : σ1 = σ) (hd : decode cc pc = .ok (.return_, 1)) : Ok p l e R s m args below meth c Γ nL (MQ below (Qr Γ rv σ1) args s R.cells R.slots (fun q => gB Γ ≤ q)) pc L [] σ := by
  subst hv; subst hσ
  exact fun H locs ls hR hL hls => W.vret cx.1 cx.2.1 hr (fun t ht _ => ⟨rfl, by rw [ht]; exact hR⟩) hL hd hlk
theorem k_aret (cx : Cx p R s m args c Γ nL σ0 cc own) {nm : String} (hr : meth.sig.returnType = some (.object nm)) (hlk : meth.locks = false) {x : Option Nat} {rv : Option Value} {σ1 : St} (hv : rv = some (va_rf x)) (hσ : σ1 = σ) (hd : decode cc pc = .ok (.areturn, 1)) : Ok p l e R s m args below meth c Γ nL (MQ below (Qr Γ rv σ1) args s R.cells R.slots (fun q => gB Γ ≤ q)) pc L [va_rf x] σ := by
  subst hv; subst hσ
  exact fun H locs ls hR hL hls => W.aret cx.1 cx.2.1 hr (Or.inl ⟨nm, rfl⟩) (by cases x; exact Or.inl rfl; exact Or.inr ⟨_, rfl⟩) (fun t ht _ => ⟨rfl, by rw [ht]; exact hR⟩) hL hd hlk
-- static fields
theorem k_gets (cx : Cx p R s m args c Γ nL σ0 cc own) {idx i : Nat} {nm : String} (hn : stNm[i]? = some nm) (hl : Cond.fieldLink own idx RX10 nm "[I" ∈ TBL) (hd : decode cc pc = .ok (.getstatic idx, 3)) (h : Ok p l e R s m args below meth c Γ nL Q (pc + 3) L (va_rf (some (hpG σ i)) :: st) σ) : Ok p l e R s m args below meth c Γ nL Q pc L st σ := by
  intro H locs ls hR hL hls
  obtain ⟨cf, kf, fi, f, a, cell, h1, h2, h3, h4, h5, h6, h7, h8⟩ := cx.2.2.2.2.2.1.2.2.2.2.1 i nm hn
  refine W.gets cx.1 cx.2.1 cx.2.2.2.1 (cx.2.2.2.2.1 _ hl) h1 h2 h3 h4 (v := va_rf (some (hpG σ i))) (by rw [hR.2.2.1 a (Nat.not_le.mp h8)]; exact h5) (fun e => by rw [e] at h6; cases h6) (by rw [hR.2.2.2.2.2.2.1 i]; exact h7) rfl hd (h H locs ls hR hL hls)
theorem k_getsN (cx : Cx p R s m args c Γ nL σ0 cc own) (ho : own = RX5) (hd : decode cc pc = .ok (.getstatic 25, 3)) (h : Ok p l e R s m args below meth c Γ nL Q (pc + 3) L (va_rf (some (hpG σ 0)) :: st) σ) : Ok p l e R s m args below meth c Γ nL Q pc L st σ := by
  subst ho
  intro H locs ls hR hL hls
  obtain ⟨cf, kf, fi, f, a, cell, h1, h2, h3, h4, h5, h6, h7, h8⟩ := cx.2.2.2.2.2.1.2.2.2.2.1 0 "AT_FIRST" rfl
  exact va_WgetsN cx.1 cx.2.1 cx.2.2.2.1 (va_Nw.use rfl cx.2.2.2.2.2.1.2.2.1) h1 h2 h3 h4 (v := va_rf (some (hpG σ 0))) (by rw [hR.2.2.1 a (Nat.not_le.mp h8)]; exact h5) (fun e => by rw [e] at h6; cases h6) (by rw [hR.2.2.2.2.2.2.1 0]; exact h7) rfl hd (h H locs ls hR hL hls)
-- Math
def jmax (x y : Int32) : Int32 := if x < y then y else x
def jmin (x y : Int32) : Int32 := if y < x then y else x
def jabs (x : Int32) : Int32 := if 0 ≤ x then x else 0 - x
def MW (own : String) (idx : Nat) (y : MethodName) (b : ByteArray) (mL : Nat) : Prop := Cond.methodLink own idx y ∈ TBL ∧ Cond.static y ∈ TBL ∧ Cond.initialized "java/lang/Math" ∈ TBL ∧ Cond.code y b mL (some .int) ∈ TBL
theorem k_max (cx : Cx p R s m args c Γ nL σ0 cc own) {idx : Nat} {x y : Int32} (hw : MW own idx Lib.Math.max.name Lib.Math.max.code 2) (hfr : 1 ≤ R.frames ∧ 21 ≤ R.locals) (hs : (st.map fun v => v.category).sum ≤ 8) (hd : decode cc pc = .ok (.invokestatic idx, 3)) (h : Ok p l e R s m args below meth c Γ nL Q (pc + 3) L (.int (jmax x y) :: st) σ) : Ok p l e R s m args below meth c Γ nL Q pc L (.int y :: .int x :: st) σ := by
  intro H locs ls hR hL hls
  have hts := cx.2.2.2.2.1
  exact va_mmax cx.1 cx.2.1 (by rw [cx.2.2.1]; exact hls.1.symm) cx.2.2.2.1 (hts _ hw.1) (hts _ hw.2.1) (hts _ hw.2.2.1) (hts _ hw.2.2.2) hfr.1 (by omega) (Nat.le_refl _) (Nat.le_refl _) hd (h H locs ls hR hL hls)
theorem k_min (cx : Cx p R s m args c Γ nL σ0 cc own) {idx : Nat} {x y : Int32} (hw : MW own idx Lib.Math.min.name Lib.Math.min.code 2) (hfr : 1 ≤ R.frames ∧ 21 ≤ R.locals) (hs : (st.map fun v => v.category).sum ≤ 8) (hd : decode cc pc = .ok (.invokestatic idx, 3)) (h : Ok p l e R s m args below meth c Γ nL Q (pc + 3) L (.int (jmin x y) :: st) σ) : Ok p l e R s m args below meth c Γ nL Q pc L (.int y :: .int x :: st) σ := by
  intro H locs ls hR hL hls
  have hts := cx.2.2.2.2.1
  exact va_mmin cx.1 cx.2.1 (by rw [cx.2.2.1]; exact hls.1.symm) cx.2.2.2.1 (hts _ hw.1) (hts _ hw.2.1) (hts _ hw.2.2.1) (hts _ hw.2.2.2) hfr.1 (by omega) (Nat.le_refl _) (Nat.le_refl _) hd (h H locs ls hR hL hls)
theorem k_abs (cx : Cx p R s m args c Γ nL σ0 cc own) {idx : Nat} {x : Int32} (hw : MW own idx Lib.Math.abs.name Lib.Math.abs.code 1) (hfr : 1 ≤ R.frames ∧ 21 ≤ R.locals) (hs : (st.map fun v => v.category).sum ≤ 8) (hd : decode cc pc = .ok (.invokestatic idx, 3)) (h : Ok p l e R s m args below meth c Γ nL Q (pc + 3) L (.int (jabs x) :: st) σ) : Ok p l e R s m args below meth c Γ nL Q pc L (.int x :: st) σ := by
  intro H locs ls hR hL hls
  have hts := cx.2.2.2.2.1
  exact va_mabs cx.1 cx.2.1 (by rw [cx.2.2.1]; exact hls.1.symm) cx.2.2.2.1 (hts _ hw.1) (hts _ hw.2.1) (hts _ hw.2.2.1) (hts _ hw.2.2.2) hfr.1 (by omega) (Nat.le_refl _) (Nat.le_refl _) hd (h H locs ls hR hL hls)
-- strings
theorem ldcSW {T : State} {locs : List Loc} {cells slots : Nat} (X : Stand p l e R s m args below meth c T locs cells slots) (hexec : p.tables.exec = Jvm.exec) {text : String} {index : Nat} {a : Addr} (hown : s.vm.findClass own = some m.cls)
    (hconst : (Cond.stringRef own index text).before args s = true) (hev : (Term.string own index).eval args s none [] s = some (.ref a)) {g : JFrame} (hg : g.method = m) (hdg : decode c.code g.pc = .ok (.ldc_w index, 3)) :
    ∀ target, Steps p.tables e below (T.setTop { g with pc := g.pc + 3, stack := .ref a :: g.stack }) target → Steps p.tables e below (T.setTop g) target := by
  obtain ⟨k, cf, i, a', hk, hcf, hcp, -, hr, hev'⟩ := Cond.stringRef_spec hown hconst
  cases hev.symm.trans hev'
  obtain ⟨k', hk', he⟩ := X.warmed.alike.2.2 _ _ hk
  have hr' : k'.resolved[index]? = some (some (.string a)) := by
    rcases X.warmed.entry hk hk' index with h | ⟨h, -⟩
    · rw [h]; exact hr
    · rw [hr] at h; cases h
  intro target hrest
  subst hg
  jvm_step X.here [hexec, hdg, ldc_w.wp_string (e := e) (s := T) (f := g) X.here.top hk' (by rw [he]; exact hcf) hcp hr']
  exact hrest
theorem k_ldcS (cx : Cx p R s m args c Γ nL σ0 cc own) (ho : own = RX10) (i : Nat) {idx : Nat} {tx : String} (ht : strTx[i]? = some tx) (hi : idx = 305 + 2 * i) (hd : decode cc pc = .ok (.ldc_w idx, 3)) (h : Ok p l e R s m args below meth c Γ nL Q (pc + 3) L (.ref (gK Γ i) :: st) σ) : Ok p l e R s m args below meth c Γ nL Q pc L st σ := by
  subst ho
  subst hi
  intro H locs ls hR hL hls T hT X
  obtain ⟨t, a1, b1⟩ := h H locs ls hR hL hls T hT X
  have hZ := cx.2.2.2.2.2.1.2.2.2.2.2.2.1.2 i tx ht
  exact ⟨t, ldcSW X cx.1 cx.2.2.2.1 (text := tx) hZ.1 hZ.2 (g := F0 m pc ls st) rfl (by rw [cx.2.1]; exact hd) t a1, b1⟩
end OKC
end
section
theorem zz_last : True := trivial
end

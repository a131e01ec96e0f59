-- ===== PART A: goes FIRST, ahead of the names: the tables' words, and 'selects' of the private methods out of them =====
/-- a private method of a class that the tables say can be made, by its rows of tables_1 -/
def lw_okq (q : MethodName × Nat) : Prop := (q.1.cls ≠ "java/lang/invoke/MethodHandle" ∧ q.1.cls ≠ "java/lang/invoke/VarHandle") ∧ Cond.instantiable q.1.cls q.2 ∈ tables_1 ∧ Cond.privateMethod q.1 ∈ tables_1 ∧ Cond.instanceMethod q.1 ∈ tables_1
theorem lw_p0 : lw_okq (⟨"PoemPages$Text", "behindBlanks", "(I)I"⟩, 2) := ⟨⟨by decide +kernel, by decide +kernel⟩, List.mem_of_getElem? (i := 27) (by decide +kernel), List.mem_of_getElem? (i := 170) (by decide +kernel), List.mem_of_getElem? (i := 171) (by decide +kernel)⟩
theorem lw_p1 : lw_okq (⟨"PoemPages$Text", "behindLetters", "(I)I"⟩, 2) := ⟨⟨by decide +kernel, by decide +kernel⟩, List.mem_of_getElem? (i := 27) (by decide +kernel), List.mem_of_getElem? (i := 178) (by decide +kernel), List.mem_of_getElem? (i := 179) (by decide +kernel)⟩
theorem lw_p2 : lw_okq (⟨"PoemPages$Text", "isBetween", "(IILjava/lang/String;)Z"⟩, 2) := ⟨⟨by decide +kernel, by decide +kernel⟩, List.mem_of_getElem? (i := 27) (by decide +kernel), List.mem_of_getElem? (i := 193) (by decide +kernel), List.mem_of_getElem? (i := 194) (by decide +kernel)⟩
theorem lw_p3 : lw_okq (⟨"PoemPages$History", "dropOldest", "()V"⟩, 2) := ⟨⟨by decide +kernel, by decide +kernel⟩, List.mem_of_getElem? (i := 68) (by decide +kernel), List.mem_of_getElem? (i := 257) (by decide +kernel), List.mem_of_getElem? (i := 258) (by decide +kernel)⟩
theorem lw_p4 : lw_okq (⟨"PoemPages$History", "stateAt", "(I)LPoemPages$Poem;"⟩, 2) := ⟨⟨by decide +kernel, by decide +kernel⟩, List.mem_of_getElem? (i := 68) (by decide +kernel), List.mem_of_getElem? (i := 261) (by decide +kernel), List.mem_of_getElem? (i := 262) (by decide +kernel)⟩
theorem lw_p5 : lw_okq (⟨"PoemPages$Words", "append", "(I)V"⟩, 5) := ⟨⟨by decide +kernel, by decide +kernel⟩, List.mem_of_getElem? (i := 281) (by decide +kernel), List.mem_of_getElem? (i := 310) (by decide +kernel), List.mem_of_getElem? (i := 311) (by decide +kernel)⟩
theorem lw_p6 : lw_okq (⟨"PoemPages", "layOut", "()V"⟩, 5) := ⟨⟨by decide +kernel, by decide +kernel⟩, List.mem_of_getElem? (i := 19) (by decide +kernel), List.mem_of_getElem? (i := 345) (by decide +kernel), List.mem_of_getElem? (i := 346) (by decide +kernel)⟩
theorem lw_p7 : lw_okq (⟨"PoemPages$Layout", "addStanza", "(I)LPoemPages$Stanza;"⟩, 9) := ⟨⟨by decide +kernel, by decide +kernel⟩, List.mem_of_getElem? (i := 85) (by decide +kernel), List.mem_of_getElem? (i := 359) (by decide +kernel), List.mem_of_getElem? (i := 360) (by decide +kernel)⟩
theorem lw_p8 : lw_okq (⟨"PoemPages$Layout", "lastStanza", "(I)LPoemPages$Stanza;"⟩, 9) := ⟨⟨by decide +kernel, by decide +kernel⟩, List.mem_of_getElem? (i := 85) (by decide +kernel), List.mem_of_getElem? (i := 378) (by decide +kernel), List.mem_of_getElem? (i := 379) (by decide +kernel)⟩
theorem lw_p9 : lw_okq (⟨"PoemPages$Layout", "addSpan", "(LPoemPages$Line;Z)LPoemPages$LineSpan;"⟩, 9) := ⟨⟨by decide +kernel, by decide +kernel⟩, List.mem_of_getElem? (i := 85) (by decide +kernel), List.mem_of_getElem? (i := 386) (by decide +kernel), List.mem_of_getElem? (i := 387) (by decide +kernel)⟩
theorem lw_p10 : lw_okq (⟨"PoemPages$Layout", "addFirstRow", "(LPoemPages$Line;ILPoemPages$LineSpan;LPoemPages$Poem;I)LPoemPages$Row;"⟩, 9) := ⟨⟨by decide +kernel, by decide +kernel⟩, List.mem_of_getElem? (i := 85) (by decide +kernel), List.mem_of_getElem? (i := 424) (by decide +kernel), List.mem_of_getElem? (i := 425) (by decide +kernel)⟩
theorem lw_p11 : lw_okq (⟨"PoemPages$Layout", "widthOf", "(I)I"⟩, 9) := ⟨⟨by decide +kernel, by decide +kernel⟩, List.mem_of_getElem? (i := 85) (by decide +kernel), List.mem_of_getElem? (i := 428) (by decide +kernel), List.mem_of_getElem? (i := 429) (by decide +kernel)⟩
theorem lw_p12 : lw_okq (⟨"PoemPages$Layout", "addRow", "(III)LPoemPages$Row;"⟩, 9) := ⟨⟨by decide +kernel, by decide +kernel⟩, List.mem_of_getElem? (i := 85) (by decide +kernel), List.mem_of_getElem? (i := 444) (by decide +kernel), List.mem_of_getElem? (i := 445) (by decide +kernel)⟩
theorem lw_p13 : lw_okq (⟨"PoemPages$Layout", "putWords", "(LPoemPages$Words;LPoemPages$Row;II)V"⟩, 9) := ⟨⟨by decide +kernel, by decide +kernel⟩, List.mem_of_getElem? (i := 85) (by decide +kernel), List.mem_of_getElem? (i := 492) (by decide +kernel), List.mem_of_getElem? (i := 493) (by decide +kernel)⟩
theorem lw_p14 : lw_okq (⟨"PoemPages$Layout", "putWord", "(ILPoemPages$Row;II)LPoemPages$Row;"⟩, 9) := ⟨⟨by decide +kernel, by decide +kernel⟩, List.mem_of_getElem? (i := 85) (by decide +kernel), List.mem_of_getElem? (i := 501) (by decide +kernel), List.mem_of_getElem? (i := 502) (by decide +kernel)⟩
theorem lw_p15 : lw_okq (⟨"PoemPages$Layout", "passOver", "(LPoemPages$Stanza;II)V"⟩, 9) := ⟨⟨by decide +kernel, by decide +kernel⟩, List.mem_of_getElem? (i := 85) (by decide +kernel), List.mem_of_getElem? (i := 509) (by decide +kernel), List.mem_of_getElem? (i := 510) (by decide +kernel)⟩
def lw_privs_1 : List (MethodName × Nat) := [(⟨"PoemPages$Text", "behindBlanks", "(I)I"⟩, 2), (⟨"PoemPages$Text", "behindLetters", "(I)I"⟩, 2), (⟨"PoemPages$Text", "isBetween", "(IILjava/lang/String;)Z"⟩, 2), (⟨"PoemPages$History", "dropOldest", "()V"⟩, 2), (⟨"PoemPages$History", "stateAt", "(I)LPoemPages$Poem;"⟩, 2), (⟨"PoemPages$Words", "append", "(I)V"⟩, 5), (⟨"PoemPages", "layOut", "()V"⟩, 5), (⟨"PoemPages$Layout", "addStanza", "(I)LPoemPages$Stanza;"⟩, 9), (⟨"PoemPages$Layout", "lastStanza", "(I)LPoemPages$Stanza;"⟩, 9), (⟨"PoemPages$Layout", "addSpan", "(LPoemPages$Line;Z)LPoemPages$LineSpan;"⟩, 9), (⟨"PoemPages$Layout", "addFirstRow", "(LPoemPages$Line;ILPoemPages$LineSpan;LPoemPages$Poem;I)LPoemPages$Row;"⟩, 9), (⟨"PoemPages$Layout", "widthOf", "(I)I"⟩, 9), (⟨"PoemPages$Layout", "addRow", "(III)LPoemPages$Row;"⟩, 9), (⟨"PoemPages$Layout", "putWords", "(LPoemPages$Words;LPoemPages$Row;II)V"⟩, 9), (⟨"PoemPages$Layout", "putWord", "(ILPoemPages$Row;II)LPoemPages$Row;"⟩, 9), (⟨"PoemPages$Layout", "passOver", "(LPoemPages$Stanza;II)V"⟩, 9)]
theorem lw_r1 : ∀ q ∈ lw_privs_1, lw_okq q := List.forall_mem_cons.mpr ⟨lw_p0, List.forall_mem_cons.mpr ⟨lw_p1, List.forall_mem_cons.mpr ⟨lw_p2, List.forall_mem_cons.mpr ⟨lw_p3, List.forall_mem_cons.mpr ⟨lw_p4, List.forall_mem_cons.mpr ⟨lw_p5, List.forall_mem_cons.mpr ⟨lw_p6, List.forall_mem_cons.mpr ⟨lw_p7, List.forall_mem_cons.mpr ⟨lw_p8, List.forall_mem_cons.mpr ⟨lw_p9, List.forall_mem_cons.mpr ⟨lw_p10, List.forall_mem_cons.mpr ⟨lw_p11, List.forall_mem_cons.mpr ⟨lw_p12, List.forall_mem_cons.mpr ⟨lw_p13, List.forall_mem_cons.mpr ⟨lw_p14, List.forall_mem_cons.mpr ⟨lw_p15, fun _ h => absurd h List.not_mem_nil⟩⟩⟩⟩⟩⟩⟩⟩⟩⟩⟩⟩⟩⟩⟩⟩
theorem lw_p16 : lw_okq (⟨"PoemPages$Layout", "closePage", "(I)V"⟩, 9) := ⟨⟨by decide +kernel, by decide +kernel⟩, List.mem_of_getElem? (i := 85) (by decide +kernel), List.mem_of_getElem? (i := 513) (by decide +kernel), List.mem_of_getElem? (i := 514) (by decide +kernel)⟩
theorem lw_p17 : lw_okq (⟨"PoemPages$Layout", "putStanza", "(LPoemPages$Stanza;I)V"⟩, 9) := ⟨⟨by decide +kernel, by decide +kernel⟩, List.mem_of_getElem? (i := 85) (by decide +kernel), List.mem_of_getElem? (i := 517) (by decide +kernel), List.mem_of_getElem? (i := 518) (by decide +kernel)⟩
theorem lw_p18 : lw_okq (⟨"PoemPages$Layout", "putRow", "(LPoemPages$Row;II)V"⟩, 9) := ⟨⟨by decide +kernel, by decide +kernel⟩, List.mem_of_getElem? (i := 85) (by decide +kernel), List.mem_of_getElem? (i := 521) (by decide +kernel), List.mem_of_getElem? (i := 522) (by decide +kernel)⟩
theorem lw_p19 : lw_okq (⟨"PoemPages$Layout", "addPage", "(I)LPoemPages$Page;"⟩, 9) := ⟨⟨by decide +kernel, by decide +kernel⟩, List.mem_of_getElem? (i := 85) (by decide +kernel), List.mem_of_getElem? (i := 529) (by decide +kernel), List.mem_of_getElem? (i := 530) (by decide +kernel)⟩
theorem lw_p20 : lw_okq (⟨"PoemPages$Layout", "beginsWithStanza", "(LPoemPages$Page;)Z"⟩, 9) := ⟨⟨by decide +kernel, by decide +kernel⟩, List.mem_of_getElem? (i := 85) (by decide +kernel), List.mem_of_getElem? (i := 562) (by decide +kernel), List.mem_of_getElem? (i := 563) (by decide +kernel)⟩
theorem lw_p21 : lw_okq (⟨"PoemPages$Poem", "moveLine", "(II)V"⟩, 3) := ⟨⟨by decide +kernel, by decide +kernel⟩, List.mem_of_getElem? (i := 42) (by decide +kernel), List.mem_of_getElem? (i := 591) (by decide +kernel), List.mem_of_getElem? (i := 592) (by decide +kernel)⟩
theorem lw_p22 : lw_okq (⟨"PoemPages", "byteInRow", "(LPoemPages$Row;I)I"⟩, 5) := ⟨⟨by decide +kernel, by decide +kernel⟩, List.mem_of_getElem? (i := 19) (by decide +kernel), List.mem_of_getElem? (i := 653) (by decide +kernel), List.mem_of_getElem? (i := 654) (by decide +kernel)⟩
theorem lw_p23 : lw_okq (⟨"PoemPages", "numberWithWidth", "(II)I"⟩, 5) := ⟨⟨by decide +kernel, by decide +kernel⟩, List.mem_of_getElem? (i := 19) (by decide +kernel), List.mem_of_getElem? (i := 694) (by decide +kernel), List.mem_of_getElem? (i := 695) (by decide +kernel)⟩
theorem lw_p24 : lw_okq (⟨"PoemPages", "countedSetting", "(II)I"⟩, 5) := ⟨⟨by decide +kernel, by decide +kernel⟩, List.mem_of_getElem? (i := 19) (by decide +kernel), List.mem_of_getElem? (i := 720) (by decide +kernel), List.mem_of_getElem? (i := 721) (by decide +kernel)⟩
theorem lw_p25 : lw_okq (⟨"PoemPages", "withLines", "(J)J"⟩, 5) := ⟨⟨by decide +kernel, by decide +kernel⟩, List.mem_of_getElem? (i := 19) (by decide +kernel), List.mem_of_getElem? (i := 734) (by decide +kernel), List.mem_of_getElem? (i := 735) (by decide +kernel)⟩
theorem lw_p26 : lw_okq (⟨"PoemPages", "withRows", "(J)J"⟩, 5) := ⟨⟨by decide +kernel, by decide +kernel⟩, List.mem_of_getElem? (i := 19) (by decide +kernel), List.mem_of_getElem? (i := 739) (by decide +kernel), List.mem_of_getElem? (i := 740) (by decide +kernel)⟩
theorem lw_p27 : lw_okq (⟨"PoemPages", "withPages", "(J)J"⟩, 5) := ⟨⟨by decide +kernel, by decide +kernel⟩, List.mem_of_getElem? (i := 19) (by decide +kernel), List.mem_of_getElem? (i := 744) (by decide +kernel), List.mem_of_getElem? (i := 745) (by decide +kernel)⟩
theorem lw_p28 : lw_okq (⟨"PoemPages", "withPlaces", "(J)J"⟩, 5) := ⟨⟨by decide +kernel, by decide +kernel⟩, List.mem_of_getElem? (i := 19) (by decide +kernel), List.mem_of_getElem? (i := 749) (by decide +kernel), List.mem_of_getElem? (i := 750) (by decide +kernel)⟩
theorem lw_p29 : lw_okq (⟨"PoemPagesModel", "readsShape", "()V"⟩, 26) := ⟨⟨by decide +kernel, by decide +kernel⟩, List.mem_of_getElem? (i := 755) (by decide +kernel), List.mem_of_getElem? (i := 859) (by decide +kernel), List.mem_of_getElem? (i := 860) (by decide +kernel)⟩
theorem lw_p30 : lw_okq (⟨"PoemPagesModel", "skips", "()V"⟩, 26) := ⟨⟨by decide +kernel, by decide +kernel⟩, List.mem_of_getElem? (i := 755) (by decide +kernel), List.mem_of_getElem? (i := 863) (by decide +kernel), List.mem_of_getElem? (i := 864) (by decide +kernel)⟩
theorem lw_p31 : lw_okq (⟨"PoemPagesModel", "next", "()I"⟩, 26) := ⟨⟨by decide +kernel, by decide +kernel⟩, List.mem_of_getElem? (i := 755) (by decide +kernel), List.mem_of_getElem? (i := 867) (by decide +kernel), List.mem_of_getElem? (i := 868) (by decide +kernel)⟩
def lw_privs_2 : List (MethodName × Nat) := [(⟨"PoemPages$Layout", "closePage", "(I)V"⟩, 9), (⟨"PoemPages$Layout", "putStanza", "(LPoemPages$Stanza;I)V"⟩, 9), (⟨"PoemPages$Layout", "putRow", "(LPoemPages$Row;II)V"⟩, 9), (⟨"PoemPages$Layout", "addPage", "(I)LPoemPages$Page;"⟩, 9), (⟨"PoemPages$Layout", "beginsWithStanza", "(LPoemPages$Page;)Z"⟩, 9), (⟨"PoemPages$Poem", "moveLine", "(II)V"⟩, 3), (⟨"PoemPages", "byteInRow", "(LPoemPages$Row;I)I"⟩, 5), (⟨"PoemPages", "numberWithWidth", "(II)I"⟩, 5), (⟨"PoemPages", "countedSetting", "(II)I"⟩, 5), (⟨"PoemPages", "withLines", "(J)J"⟩, 5), (⟨"PoemPages", "withRows", "(J)J"⟩, 5), (⟨"PoemPages", "withPages", "(J)J"⟩, 5), (⟨"PoemPages", "withPlaces", "(J)J"⟩, 5), (⟨"PoemPagesModel", "readsShape", "()V"⟩, 26), (⟨"PoemPagesModel", "skips", "()V"⟩, 26), (⟨"PoemPagesModel", "next", "()I"⟩, 26)]
theorem lw_r2 : ∀ q ∈ lw_privs_2, lw_okq q := List.forall_mem_cons.mpr ⟨lw_p16, List.forall_mem_cons.mpr ⟨lw_p17, List.forall_mem_cons.mpr ⟨lw_p18, List.forall_mem_cons.mpr ⟨lw_p19, List.forall_mem_cons.mpr ⟨lw_p20, List.forall_mem_cons.mpr ⟨lw_p21, List.forall_mem_cons.mpr ⟨lw_p22, List.forall_mem_cons.mpr ⟨lw_p23, List.forall_mem_cons.mpr ⟨lw_p24, List.forall_mem_cons.mpr ⟨lw_p25, List.forall_mem_cons.mpr ⟨lw_p26, List.forall_mem_cons.mpr ⟨lw_p27, List.forall_mem_cons.mpr ⟨lw_p28, List.forall_mem_cons.mpr ⟨lw_p29, List.forall_mem_cons.mpr ⟨lw_p30, List.forall_mem_cons.mpr ⟨lw_p31, fun _ h => absurd h List.not_mem_nil⟩⟩⟩⟩⟩⟩⟩⟩⟩⟩⟩⟩⟩⟩⟩⟩
theorem lw_p32 : lw_okq (⟨"PoemPagesModel", "isLetter", "()Z"⟩, 26) := ⟨⟨by decide +kernel, by decide +kernel⟩, List.mem_of_getElem? (i := 755) (by decide +kernel), List.mem_of_getElem? (i := 871) (by decide +kernel), List.mem_of_getElem? (i := 872) (by decide +kernel)⟩
theorem lw_p33 : lw_okq (⟨"PoemPagesModel", "isName", "(IJI)Z"⟩, 26) := ⟨⟨by decide +kernel, by decide +kernel⟩, List.mem_of_getElem? (i := 755) (by decide +kernel), List.mem_of_getElem? (i := 876) (by decide +kernel), List.mem_of_getElem? (i := 877) (by decide +kernel)⟩
theorem lw_p34 : lw_okq (⟨"PoemPagesModel", "readsLine", "()V"⟩, 26) := ⟨⟨by decide +kernel, by decide +kernel⟩, List.mem_of_getElem? (i := 755) (by decide +kernel), List.mem_of_getElem? (i := 884) (by decide +kernel), List.mem_of_getElem? (i := 885) (by decide +kernel)⟩
theorem lw_p35 : lw_okq (⟨"PoemPagesModel", "takes", "(I)Z"⟩, 26) := ⟨⟨by decide +kernel, by decide +kernel⟩, List.mem_of_getElem? (i := 755) (by decide +kernel), List.mem_of_getElem? (i := 888) (by decide +kernel), List.mem_of_getElem? (i := 889) (by decide +kernel)⟩
theorem lw_p36 : lw_okq (⟨"PoemPagesModel", "readsWord", "()V"⟩, 26) := ⟨⟨by decide +kernel, by decide +kernel⟩, List.mem_of_getElem? (i := 755) (by decide +kernel), List.mem_of_getElem? (i := 892) (by decide +kernel), List.mem_of_getElem? (i := 893) (by decide +kernel)⟩
theorem lw_p37 : lw_okq (⟨"PoemPagesModel", "keeps", "()V"⟩, 26) := ⟨⟨by decide +kernel, by decide +kernel⟩, List.mem_of_getElem? (i := 755) (by decide +kernel), List.mem_of_getElem? (i := 900) (by decide +kernel), List.mem_of_getElem? (i := 901) (by decide +kernel)⟩
theorem lw_p38 : lw_okq (⟨"PoemPagesModel", "copies", "(II)V"⟩, 26) := ⟨⟨by decide +kernel, by decide +kernel⟩, List.mem_of_getElem? (i := 755) (by decide +kernel), List.mem_of_getElem? (i := 904) (by decide +kernel), List.mem_of_getElem? (i := 905) (by decide +kernel)⟩
theorem lw_p39 : lw_okq (⟨"PoemPagesModel", "lays", "(I)V"⟩, 26) := ⟨⟨by decide +kernel, by decide +kernel⟩, List.mem_of_getElem? (i := 755) (by decide +kernel), List.mem_of_getElem? (i := 908) (by decide +kernel), List.mem_of_getElem? (i := 909) (by decide +kernel)⟩
theorem lw_p40 : lw_okq (⟨"PoemPagesModel", "isLine", "(I)Z"⟩, 26) := ⟨⟨by decide +kernel, by decide +kernel⟩, List.mem_of_getElem? (i := 755) (by decide +kernel), List.mem_of_getElem? (i := 916) (by decide +kernel), List.mem_of_getElem? (i := 917) (by decide +kernel)⟩
theorem lw_p41 : lw_okq (⟨"PoemPagesModel", "of", "(II)I"⟩, 26) := ⟨⟨by decide +kernel, by decide +kernel⟩, List.mem_of_getElem? (i := 755) (by decide +kernel), List.mem_of_getElem? (i := 920) (by decide +kernel), List.mem_of_getElem? (i := 921) (by decide +kernel)⟩
theorem lw_p42 : lw_okq (⟨"PoemPagesModel", "drops", "(I)V"⟩, 26) := ⟨⟨by decide +kernel, by decide +kernel⟩, List.mem_of_getElem? (i := 755) (by decide +kernel), List.mem_of_getElem? (i := 928) (by decide +kernel), List.mem_of_getElem? (i := 929) (by decide +kernel)⟩
theorem lw_p43 : lw_okq (⟨"PoemPagesModel", "stanzas", "()I"⟩, 26) := ⟨⟨by decide +kernel, by decide +kernel⟩, List.mem_of_getElem? (i := 755) (by decide +kernel), List.mem_of_getElem? (i := 936) (by decide +kernel), List.mem_of_getElem? (i := 937) (by decide +kernel)⟩
theorem lw_p44 : lw_okq (⟨"PoemPagesModel", "stanzaOf", "(I)I"⟩, 26) := ⟨⟨by decide +kernel, by decide +kernel⟩, List.mem_of_getElem? (i := 755) (by decide +kernel), List.mem_of_getElem? (i := 940) (by decide +kernel), List.mem_of_getElem? (i := 941) (by decide +kernel)⟩
theorem lw_p45 : lw_okq (⟨"PoemPagesModel", "beginsStanza", "(I)Z"⟩, 26) := ⟨⟨by decide +kernel, by decide +kernel⟩, List.mem_of_getElem? (i := 755) (by decide +kernel), List.mem_of_getElem? (i := 944) (by decide +kernel), List.mem_of_getElem? (i := 945) (by decide +kernel)⟩
theorem lw_p46 : lw_okq (⟨"PoemPagesModel", "draws", "()V"⟩, 26) := ⟨⟨by decide +kernel, by decide +kernel⟩, List.mem_of_getElem? (i := 755) (by decide +kernel), List.mem_of_getElem? (i := 956) (by decide +kernel), List.mem_of_getElem? (i := 957) (by decide +kernel)⟩
theorem lw_p47 : lw_okq (⟨"PoemPagesModel", "laysRows", "(I)V"⟩, 26) := ⟨⟨by decide +kernel, by decide +kernel⟩, List.mem_of_getElem? (i := 755) (by decide +kernel), List.mem_of_getElem? (i := 960) (by decide +kernel), List.mem_of_getElem? (i := 961) (by decide +kernel)⟩
def lw_privs_3 : List (MethodName × Nat) := [(⟨"PoemPagesModel", "isLetter", "()Z"⟩, 26), (⟨"PoemPagesModel", "isName", "(IJI)Z"⟩, 26), (⟨"PoemPagesModel", "readsLine", "()V"⟩, 26), (⟨"PoemPagesModel", "takes", "(I)Z"⟩, 26), (⟨"PoemPagesModel", "readsWord", "()V"⟩, 26), (⟨"PoemPagesModel", "keeps", "()V"⟩, 26), (⟨"PoemPagesModel", "copies", "(II)V"⟩, 26), (⟨"PoemPagesModel", "lays", "(I)V"⟩, 26), (⟨"PoemPagesModel", "isLine", "(I)Z"⟩, 26), (⟨"PoemPagesModel", "of", "(II)I"⟩, 26), (⟨"PoemPagesModel", "drops", "(I)V"⟩, 26), (⟨"PoemPagesModel", "stanzas", "()I"⟩, 26), (⟨"PoemPagesModel", "stanzaOf", "(I)I"⟩, 26), (⟨"PoemPagesModel", "beginsStanza", "(I)Z"⟩, 26), (⟨"PoemPagesModel", "draws", "()V"⟩, 26), (⟨"PoemPagesModel", "laysRows", "(I)V"⟩, 26)]
theorem lw_r3 : ∀ q ∈ lw_privs_3, lw_okq q := List.forall_mem_cons.mpr ⟨lw_p32, List.forall_mem_cons.mpr ⟨lw_p33, List.forall_mem_cons.mpr ⟨lw_p34, List.forall_mem_cons.mpr ⟨lw_p35, List.forall_mem_cons.mpr ⟨lw_p36, List.forall_mem_cons.mpr ⟨lw_p37, List.forall_mem_cons.mpr ⟨lw_p38, List.forall_mem_cons.mpr ⟨lw_p39, List.forall_mem_cons.mpr ⟨lw_p40, List.forall_mem_cons.mpr ⟨lw_p41, List.forall_mem_cons.mpr ⟨lw_p42, List.forall_mem_cons.mpr ⟨lw_p43, List.forall_mem_cons.mpr ⟨lw_p44, List.forall_mem_cons.mpr ⟨lw_p45, List.forall_mem_cons.mpr ⟨lw_p46, List.forall_mem_cons.mpr ⟨lw_p47, fun _ h => absurd h List.not_mem_nil⟩⟩⟩⟩⟩⟩⟩⟩⟩⟩⟩⟩⟩⟩⟩⟩
theorem lw_p48 : lw_okq (⟨"PoemPagesModel", "leans", "(I)Z"⟩, 26) := ⟨⟨by decide +kernel, by decide +kernel⟩, List.mem_of_getElem? (i := 755) (by decide +kernel), List.mem_of_getElem? (i := 964) (by decide +kernel), List.mem_of_getElem? (i := 965) (by decide +kernel)⟩
theorem lw_p49 : lw_okq (⟨"PoemPagesModel", "begins", "(IIIII)V"⟩, 26) := ⟨⟨by decide +kernel, by decide +kernel⟩, List.mem_of_getElem? (i := 755) (by decide +kernel), List.mem_of_getElem? (i := 968) (by decide +kernel), List.mem_of_getElem? (i := 969) (by decide +kernel)⟩
theorem lw_p50 : lw_okq (⟨"PoemPagesModel", "wordFrom", "(II)I"⟩, 26) := ⟨⟨by decide +kernel, by decide +kernel⟩, List.mem_of_getElem? (i := 755) (by decide +kernel), List.mem_of_getElem? (i := 975) (by decide +kernel), List.mem_of_getElem? (i := 976) (by decide +kernel)⟩
theorem lw_p51 : lw_okq (⟨"PoemPagesModel", "paginates", "(I)V"⟩, 26) := ⟨⟨by decide +kernel, by decide +kernel⟩, List.mem_of_getElem? (i := 755) (by decide +kernel), List.mem_of_getElem? (i := 979) (by decide +kernel), List.mem_of_getElem? (i := 980) (by decide +kernel)⟩
theorem lw_p52 : lw_okq (⟨"PoemPagesModel", "turns", "()V"⟩, 26) := ⟨⟨by decide +kernel, by decide +kernel⟩, List.mem_of_getElem? (i := 755) (by decide +kernel), List.mem_of_getElem? (i := 983) (by decide +kernel), List.mem_of_getElem? (i := 984) (by decide +kernel)⟩
theorem lw_p53 : lw_okq (⟨"PoemPagesModel", "linePart", "(II)I"⟩, 26) := ⟨⟨by decide +kernel, by decide +kernel⟩, List.mem_of_getElem? (i := 755) (by decide +kernel), List.mem_of_getElem? (i := 987) (by decide +kernel), List.mem_of_getElem? (i := 988) (by decide +kernel)⟩
theorem lw_p54 : lw_okq (⟨"PoemPagesModel", "letters", "(I)I"⟩, 26) := ⟨⟨by decide +kernel, by decide +kernel⟩, List.mem_of_getElem? (i := 755) (by decide +kernel), List.mem_of_getElem? (i := 991) (by decide +kernel), List.mem_of_getElem? (i := 992) (by decide +kernel)⟩
theorem lw_p55 : lw_okq (⟨"PoemPagesModel", "numberOf", "(I)I"⟩, 26) := ⟨⟨by decide +kernel, by decide +kernel⟩, List.mem_of_getElem? (i := 755) (by decide +kernel), List.mem_of_getElem? (i := 995) (by decide +kernel), List.mem_of_getElem? (i := 996) (by decide +kernel)⟩
theorem lw_p56 : lw_okq (⟨"PoemPagesModel", "rowPart", "(II)I"⟩, 26) := ⟨⟨by decide +kernel, by decide +kernel⟩, List.mem_of_getElem? (i := 755) (by decide +kernel), List.mem_of_getElem? (i := 1011) (by decide +kernel), List.mem_of_getElem? (i := 1012) (by decide +kernel)⟩
theorem lw_p57 : lw_okq (⟨"PoemPagesModel", "shown", "(I)I"⟩, 26) := ⟨⟨by decide +kernel, by decide +kernel⟩, List.mem_of_getElem? (i := 755) (by decide +kernel), List.mem_of_getElem? (i := 1015) (by decide +kernel), List.mem_of_getElem? (i := 1016) (by decide +kernel)⟩
theorem lw_p58 : lw_okq (⟨"PoemPagesModel", "pages", "()I"⟩, 26) := ⟨⟨by decide +kernel, by decide +kernel⟩, List.mem_of_getElem? (i := 755) (by decide +kernel), List.mem_of_getElem? (i := 1023) (by decide +kernel), List.mem_of_getElem? (i := 1024) (by decide +kernel)⟩
theorem lw_p59 : lw_okq (⟨"PoemPagesModel", "byteAt", "(II)I"⟩, 26) := ⟨⟨by decide +kernel, by decide +kernel⟩, List.mem_of_getElem? (i := 755) (by decide +kernel), List.mem_of_getElem? (i := 1027) (by decide +kernel), List.mem_of_getElem? (i := 1028) (by decide +kernel)⟩
theorem lw_p60 : lw_okq (⟨"PoemPagesModel", "pagePart", "(II)I"⟩, 26) := ⟨⟨by decide +kernel, by decide +kernel⟩, List.mem_of_getElem? (i := 755) (by decide +kernel), List.mem_of_getElem? (i := 1035) (by decide +kernel), List.mem_of_getElem? (i := 1036) (by decide +kernel)⟩
theorem lw_p61 : lw_okq (⟨"PoemPagesModel", "isMarked", "(I)Z"⟩, 26) := ⟨⟨by decide +kernel, by decide +kernel⟩, List.mem_of_getElem? (i := 755) (by decide +kernel), List.mem_of_getElem? (i := 1039) (by decide +kernel), List.mem_of_getElem? (i := 1040) (by decide +kernel)⟩
theorem lw_p62 : lw_okq (⟨"PoemPagesModel", "firstOn", "(I)I"⟩, 26) := ⟨⟨by decide +kernel, by decide +kernel⟩, List.mem_of_getElem? (i := 755) (by decide +kernel), List.mem_of_getElem? (i := 1043) (by decide +kernel), List.mem_of_getElem? (i := 1044) (by decide +kernel)⟩
theorem lw_p63 : lw_okq (⟨"PoemPagesModel", "far", "(II)I"⟩, 26) := ⟨⟨by decide +kernel, by decide +kernel⟩, List.mem_of_getElem? (i := 755) (by decide +kernel), List.mem_of_getElem? (i := 1051) (by decide +kernel), List.mem_of_getElem? (i := 1052) (by decide +kernel)⟩
def lw_privs_4 : List (MethodName × Nat) := [(⟨"PoemPagesModel", "leans", "(I)Z"⟩, 26), (⟨"PoemPagesModel", "begins", "(IIIII)V"⟩, 26), (⟨"PoemPagesModel", "wordFrom", "(II)I"⟩, 26), (⟨"PoemPagesModel", "paginates", "(I)V"⟩, 26), (⟨"PoemPagesModel", "turns", "()V"⟩, 26), (⟨"PoemPagesModel", "linePart", "(II)I"⟩, 26), (⟨"PoemPagesModel", "letters", "(I)I"⟩, 26), (⟨"PoemPagesModel", "numberOf", "(I)I"⟩, 26), (⟨"PoemPagesModel", "rowPart", "(II)I"⟩, 26), (⟨"PoemPagesModel", "shown", "(I)I"⟩, 26), (⟨"PoemPagesModel", "pages", "()I"⟩, 26), (⟨"PoemPagesModel", "byteAt", "(II)I"⟩, 26), (⟨"PoemPagesModel", "pagePart", "(II)I"⟩, 26), (⟨"PoemPagesModel", "isMarked", "(I)Z"⟩, 26), (⟨"PoemPagesModel", "firstOn", "(I)I"⟩, 26), (⟨"PoemPagesModel", "far", "(II)I"⟩, 26)]
theorem lw_r4 : ∀ q ∈ lw_privs_4, lw_okq q := List.forall_mem_cons.mpr ⟨lw_p48, List.forall_mem_cons.mpr ⟨lw_p49, List.forall_mem_cons.mpr ⟨lw_p50, List.forall_mem_cons.mpr ⟨lw_p51, List.forall_mem_cons.mpr ⟨lw_p52, List.forall_mem_cons.mpr ⟨lw_p53, List.forall_mem_cons.mpr ⟨lw_p54, List.forall_mem_cons.mpr ⟨lw_p55, List.forall_mem_cons.mpr ⟨lw_p56, List.forall_mem_cons.mpr ⟨lw_p57, List.forall_mem_cons.mpr ⟨lw_p58, List.forall_mem_cons.mpr ⟨lw_p59, List.forall_mem_cons.mpr ⟨lw_p60, List.forall_mem_cons.mpr ⟨lw_p61, List.forall_mem_cons.mpr ⟨lw_p62, List.forall_mem_cons.mpr ⟨lw_p63, fun _ h => absurd h List.not_mem_nil⟩⟩⟩⟩⟩⟩⟩⟩⟩⟩⟩⟩⟩⟩⟩⟩
theorem lw_p64 : lw_okq (⟨"PoemPagesModel", "nearest", "(I)I"⟩, 26) := ⟨⟨by decide +kernel, by decide +kernel⟩, List.mem_of_getElem? (i := 755) (by decide +kernel), List.mem_of_getElem? (i := 1062) (by decide +kernel), List.mem_of_getElem? (i := 1063) (by decide +kernel)⟩
theorem lw_p65 : lw_okq (⟨"PoemPagesModel", "overRows", "()I"⟩, 26) := ⟨⟨by decide +kernel, by decide +kernel⟩, List.mem_of_getElem? (i := 755) (by decide +kernel), List.mem_of_getElem? (i := 1070) (by decide +kernel), List.mem_of_getElem? (i := 1071) (by decide +kernel)⟩
theorem lw_p66 : lw_okq (⟨"PoemPagesModel", "withinRows", "()I"⟩, 26) := ⟨⟨by decide +kernel, by decide +kernel⟩, List.mem_of_getElem? (i := 755) (by decide +kernel), List.mem_of_getElem? (i := 1074) (by decide +kernel), List.mem_of_getElem? (i := 1075) (by decide +kernel)⟩
theorem lw_p67 : lw_okq (⟨"PoemPagesModel", "number", "(I)I"⟩, 26) := ⟨⟨by decide +kernel, by decide +kernel⟩, List.mem_of_getElem? (i := 755) (by decide +kernel), List.mem_of_getElem? (i := 1086) (by decide +kernel), List.mem_of_getElem? (i := 1087) (by decide +kernel)⟩
theorem lw_p68 : lw_okq (⟨"PoemPagesModel", "marked", "()I"⟩, 26) := ⟨⟨by decide +kernel, by decide +kernel⟩, List.mem_of_getElem? (i := 755) (by decide +kernel), List.mem_of_getElem? (i := 1090) (by decide +kernel), List.mem_of_getElem? (i := 1091) (by decide +kernel)⟩
theorem lw_p69 : lw_okq (⟨"PoemPagesModel", "widest", "()I"⟩, 26) := ⟨⟨by decide +kernel, by decide +kernel⟩, List.mem_of_getElem? (i := 755) (by decide +kernel), List.mem_of_getElem? (i := 1094) (by decide +kernel), List.mem_of_getElem? (i := 1095) (by decide +kernel)⟩
theorem lw_p70 : lw_okq (⟨"PoemPagesModel", "mixes", "(J)V"⟩, 26) := ⟨⟨by decide +kernel, by decide +kernel⟩, List.mem_of_getElem? (i := 755) (by decide +kernel), List.mem_of_getElem? (i := 1103) (by decide +kernel), List.mem_of_getElem? (i := 1104) (by decide +kernel)⟩
def lw_privs_5 : List (MethodName × Nat) := [(⟨"PoemPagesModel", "nearest", "(I)I"⟩, 26), (⟨"PoemPagesModel", "overRows", "()I"⟩, 26), (⟨"PoemPagesModel", "withinRows", "()I"⟩, 26), (⟨"PoemPagesModel", "number", "(I)I"⟩, 26), (⟨"PoemPagesModel", "marked", "()I"⟩, 26), (⟨"PoemPagesModel", "widest", "()I"⟩, 26), (⟨"PoemPagesModel", "mixes", "(J)V"⟩, 26)]
theorem lw_r5 : ∀ q ∈ lw_privs_5, lw_okq q := List.forall_mem_cons.mpr ⟨lw_p64, List.forall_mem_cons.mpr ⟨lw_p65, List.forall_mem_cons.mpr ⟨lw_p66, List.forall_mem_cons.mpr ⟨lw_p67, List.forall_mem_cons.mpr ⟨lw_p68, List.forall_mem_cons.mpr ⟨lw_p69, List.forall_mem_cons.mpr ⟨lw_p70, fun _ h => absurd h List.not_mem_nil⟩⟩⟩⟩⟩⟩⟩
def lw_privs : List (MethodName × Nat) := lw_privs_1 ++ (lw_privs_2 ++ (lw_privs_3 ++ (lw_privs_4 ++ (lw_privs_5))))
def lw_tbl : List Cond := k2_sels lw_privs ++ tables_1
theorem lw_privs_ok : ∀ q ∈ lw_privs, lw_okq q := by
  show ∀ q ∈ lw_privs_1 ++ (lw_privs_2 ++ (lw_privs_3 ++ (lw_privs_4 ++ (lw_privs_5)))), lw_okq q
  exact List.forall_mem_append.mpr ⟨lw_r1, List.forall_mem_append.mpr ⟨lw_r2, List.forall_mem_append.mpr ⟨lw_r3, List.forall_mem_append.mpr ⟨lw_r4, lw_r5⟩⟩⟩⟩

/-! ===== BEGIN words of one list among another's, by their places ===== -/
theorem goodIn_r {big : List Cond} (ws : List Cond) (ps : List Nat) (hp : ws = ps.filterMap (fun i => big[i]?)) (h : ws.all goodWord = true) : GoodIn big ws := by
  intro w hw
  have h1 := List.all_eq_true.mp h w hw
  rw [hp] at hw
  obtain ⟨i, -, hi⟩ := List.mem_filterMap.mp hw
  have hm : w ∈ big := by first | exact List.mem_of_getElem? hi | exact List.getElem?_mem hi
  exact ⟨hm, good_of_word h1⟩
theorem goodIn_app {big a b : List Cond} (ha : GoodIn big a) (hb : GoodIn big b) : GoodIn big (a ++ b) := fun w h => (List.mem_append.mp h).elim (ha w) (hb w)
theorem goodIn_ca {big a b : List Cond} {c : Cond} (ha : GoodIn big (c :: a)) (hb : GoodIn big b) : GoodIn big (c :: (a ++ b)) := fun w h => (List.mem_cons.mp h).elim (fun e => ha w (List.mem_cons.mpr (Or.inl e))) (fun h => (List.mem_append.mp h).elim (fun h => ha w (List.mem_cons.mpr (Or.inr h))) (hb w))
theorem goodIn_sub {big ws : List Cond} (hm : ∀ w ∈ ws, w ∈ big) (h : ws.all goodWord = true) : GoodIn big ws := fun w hw => ⟨hm w hw, good_of_word (List.all_eq_true.mp h w hw)⟩
/-! ===== END ===== -/

/-! ===== BEGIN printed: names, fields, word lists, decode rows ===== -/
def RX0 : String := "PoemPages$History"
def TX0 : u_T := fun k => match k with
  | 0 => ("PoemPages$History", "states", "[LPoemPages$Poem;", true)
  | _ => ("PoemPages$History", "count", "I", false)
def tyX0 : Nat → FieldType := fun k => match k with
  | 0 => .array (.object "PoemPages$Poem")
  | _ => .int
abbrev wsX00 : List Cond := u_ws RX0 TX0 2
theorem nmX0 : ∀ a, a < 2 → ∀ b, b < 2 → a ≠ b → (TX0 a).2.1 ≠ (TX0 b).2.1 := by decide +kernel
theorem tyX0_ok : ∀ k, k < 2 → parseFieldDescriptor (TX0 k).2.2.1 = some (tyX0 k) := by decide +kernel
abbrev cX0_init : ByteArray := prog_2_method_1_code
def yX0_init : MethodName := ⟨RX0, "<init>", "()V"⟩
abbrev cX0_keepState : ByteArray := prog_2_method_2_code
def yX0_keepState : MethodName := ⟨RX0, "keepState", "(LPoemPages$Poem;)V"⟩
abbrev cX0_bringBack : ByteArray := prog_2_method_3_code
def yX0_bringBack : MethodName := ⟨RX0, "bringBack", "(LPoemPages$Poem;)V"⟩
abbrev cX0_dropOldest : ByteArray := prog_2_method_4_code
def yX0_dropOldest : MethodName := ⟨RX0, "dropOldest", "()V"⟩
abbrev cX0_stateAt : ByteArray := prog_2_method_5_code
def yX0_stateAt : MethodName := ⟨RX0, "stateAt", "(I)LPoemPages$Poem;"⟩
def RX1 : String := "PoemPages$Layout"
def TX1 : u_T := fun k => match k with
  | 0 => ("PoemPages$Layout", "rows", "[LPoemPages$Row;", true)
  | 1 => ("PoemPages$Layout", "spans", "[LPoemPages$LineSpan;", true)
  | 2 => ("PoemPages$Layout", "stanzas", "[LPoemPages$Stanza;", true)
  | 3 => ("PoemPages$Layout", "pages", "[LPoemPages$Page;", true)
  | 4 => ("PoemPages$Layout", "rowCount", "I", false)
  | 5 => ("PoemPages$Layout", "stanzaCount", "I", false)
  | 6 => ("PoemPages$Layout", "pageCount", "I", false)
  | 7 => ("PoemPages$Layout", "spanCount", "I", false)
  | _ => ("PoemPages$Layout", "nextPlace", "I", false)
def tyX1 : Nat → FieldType := fun k => match k with
  | 0 => .array (.object "PoemPages$Row")
  | 1 => .array (.object "PoemPages$LineSpan")
  | 2 => .array (.object "PoemPages$Stanza")
  | 3 => .array (.object "PoemPages$Page")
  | 4 => .int
  | 5 => .int
  | 6 => .int
  | 7 => .int
  | _ => .int
abbrev wsX10 : List Cond := u_ws RX1 TX1 9
theorem nmX1 : ∀ a, a < 9 → ∀ b, b < 9 → a ≠ b → (TX1 a).2.1 ≠ (TX1 b).2.1 := by decide +kernel
theorem tyX1_ok : ∀ k, k < 9 → parseFieldDescriptor (TX1 k).2.2.1 = some (tyX1 k) := by decide +kernel
abbrev cX1_init : ByteArray := prog_3_method_1_code
def yX1_init : MethodName := ⟨RX1, "<init>", "()V"⟩
abbrev cX1_rowAt : ByteArray := prog_3_method_2_code
def yX1_rowAt : MethodName := ⟨RX1, "rowAt", "(I)LPoemPages$Row;"⟩
abbrev cX1_spanAt : ByteArray := prog_3_method_3_code
def yX1_spanAt : MethodName := ⟨RX1, "spanAt", "(I)LPoemPages$LineSpan;"⟩
abbrev cX1_stanzaAt : ByteArray := prog_3_method_4_code
def yX1_stanzaAt : MethodName := ⟨RX1, "stanzaAt", "(I)LPoemPages$Stanza;"⟩
abbrev cX1_pageAt : ByteArray := prog_3_method_5_code
def yX1_pageAt : MethodName := ⟨RX1, "pageAt", "(I)LPoemPages$Page;"⟩
abbrev cX1_rowAtPlace : ByteArray := prog_3_method_6_code
def yX1_rowAtPlace : MethodName := ⟨RX1, "rowAtPlace", "(LPoemPages$Page;I)LPoemPages$Row;"⟩
abbrev cX1_runOvers : ByteArray := prog_3_method_7_code
def yX1_runOvers : MethodName := ⟨RX1, "runOvers", "()I"⟩
abbrev cX1_cuts : ByteArray := prog_3_method_8_code
def yX1_cuts : MethodName := ⟨RX1, "cuts", "()I"⟩
abbrev cX1_markedPages : ByteArray := prog_3_method_9_code
def yX1_markedPages : MethodName := ⟨RX1, "markedPages", "()I"⟩
abbrev cX1_lastNumber : ByteArray := prog_3_method_10_code
def yX1_lastNumber : MethodName := ⟨RX1, "lastNumber", "()I"⟩
abbrev cX1_greatestWidth : ByteArray := prog_3_method_11_code
def yX1_greatestWidth : MethodName := ⟨RX1, "greatestWidth", "(II)I"⟩
abbrev cX1_distanceFrom : ByteArray := prog_3_method_12_code
def yX1_distanceFrom : MethodName := ⟨RX1, "distanceFrom", "(ILPoemPages$Stanza;)I"⟩
abbrev cX1_breakLines : ByteArray := prog_3_method_13_code
def yX1_breakLines : MethodName := ⟨RX1, "breakLines", "(LPoemPages$Poem;I)V"⟩
abbrev cX1_putOnPages : ByteArray := prog_3_method_14_code
def yX1_putOnPages : MethodName := ⟨RX1, "putOnPages", "(II)V"⟩
abbrev cX1_addFirstRow : ByteArray := prog_3_method_15_code
def yX1_addFirstRow : MethodName := ⟨RX1, "addFirstRow", "(LPoemPages$Line;ILPoemPages$LineSpan;LPoemPages$Poem;I)LPoemPages$Row;"⟩
abbrev cX1_putWords : ByteArray := prog_3_method_16_code
def yX1_putWords : MethodName := ⟨RX1, "putWords", "(LPoemPages$Words;LPoemPages$Row;II)V"⟩
abbrev cX1_putWord : ByteArray := prog_3_method_17_code
def yX1_putWord : MethodName := ⟨RX1, "putWord", "(ILPoemPages$Row;II)LPoemPages$Row;"⟩
abbrev cX1_passOver : ByteArray := prog_3_method_18_code
def yX1_passOver : MethodName := ⟨RX1, "passOver", "(LPoemPages$Stanza;II)V"⟩
abbrev cX1_putStanza : ByteArray := prog_3_method_19_code
def yX1_putStanza : MethodName := ⟨RX1, "putStanza", "(LPoemPages$Stanza;I)V"⟩
abbrev cX1_putRow : ByteArray := prog_3_method_20_code
def yX1_putRow : MethodName := ⟨RX1, "putRow", "(LPoemPages$Row;II)V"⟩
abbrev cX1_closePage : ByteArray := prog_3_method_21_code
def yX1_closePage : MethodName := ⟨RX1, "closePage", "(I)V"⟩
abbrev cX1_beginsWithStanza : ByteArray := prog_3_method_22_code
def yX1_beginsWithStanza : MethodName := ⟨RX1, "beginsWithStanza", "(LPoemPages$Page;)Z"⟩
abbrev cX1_widthOf : ByteArray := prog_3_method_23_code
def yX1_widthOf : MethodName := ⟨RX1, "widthOf", "(I)I"⟩
abbrev cX1_addRow : ByteArray := prog_3_method_24_code
def yX1_addRow : MethodName := ⟨RX1, "addRow", "(III)LPoemPages$Row;"⟩
abbrev cX1_addSpan : ByteArray := prog_3_method_25_code
def yX1_addSpan : MethodName := ⟨RX1, "addSpan", "(LPoemPages$Line;Z)LPoemPages$LineSpan;"⟩
abbrev cX1_addStanza : ByteArray := prog_3_method_26_code
def yX1_addStanza : MethodName := ⟨RX1, "addStanza", "(I)LPoemPages$Stanza;"⟩
abbrev cX1_lastStanza : ByteArray := prog_3_method_27_code
def yX1_lastStanza : MethodName := ⟨RX1, "lastStanza", "(I)LPoemPages$Stanza;"⟩
abbrev cX1_addPage : ByteArray := prog_3_method_28_code
def yX1_addPage : MethodName := ⟨RX1, "addPage", "(I)LPoemPages$Page;"⟩
def RX2 : String := "PoemPages$Line"
def TX2 : u_T := fun k => match k with
  | 0 => ("PoemPages$Line", "words", "LPoemPages$Words;", true)
  | 1 => ("PoemPages$Line", "steps", "I", true)
  | 2 => ("PoemPages$Line", "half", "Z", true)
  | _ => ("PoemPages$Line", "last", "Z", true)
def tyX2 : Nat → FieldType := fun k => match k with
  | 0 => .object "PoemPages$Words"
  | 1 => .int
  | 2 => .boolean
  | _ => .boolean
abbrev wsX20 : List Cond := u_ws RX2 TX2 4
theorem nmX2 : ∀ a, a < 4 → ∀ b, b < 4 → a ≠ b → (TX2 a).2.1 ≠ (TX2 b).2.1 := by decide +kernel
theorem tyX2_ok : ∀ k, k < 4 → parseFieldDescriptor (TX2 k).2.2.1 = some (tyX2 k) := by decide +kernel
abbrev cX2_init : ByteArray := prog_4_method_1_code
def yX2_init : MethodName := ⟨RX2, "<init>", "(LPoemPages$Words;IZZ)V"⟩
def RX3 : String := "PoemPages$LineSpan"
def TX3 : u_T := fun k => match k with
  | 0 => ("PoemPages$LineSpan", "leans", "Z", false)
  | 1 => ("PoemPages$LineSpan", "number", "I", false)
  | 2 => ("PoemPages$LineSpan", "stanza", "I", false)
  | 3 => ("PoemPages$LineSpan", "firstRow", "I", false)
  | _ => ("PoemPages$LineSpan", "rows", "I", false)
def tyX3 : Nat → FieldType := fun k => match k with
  | 0 => .boolean
  | 1 => .int
  | 2 => .int
  | 3 => .int
  | _ => .int
abbrev wsX30 : List Cond := u_ws RX3 TX3 5
theorem nmX3 : ∀ a, a < 5 → ∀ b, b < 5 → a ≠ b → (TX3 a).2.1 ≠ (TX3 b).2.1 := by decide +kernel
theorem tyX3_ok : ∀ k, k < 5 → parseFieldDescriptor (TX3 k).2.2.1 = some (tyX3 k) := by decide +kernel
abbrev cX3_init : ByteArray := prog_5_method_1_code
def yX3_init : MethodName := ⟨RX3, "<init>", "()V"⟩
def RX4 : String := "PoemPages$Page"
def TX4 : u_T := fun k => match k with
  | 0 => ("PoemPages$Page", "firstRow", "I", false)
  | 1 => ("PoemPages$Page", "rows", "I", false)
  | 2 => ("PoemPages$Page", "places", "I", false)
  | 3 => ("PoemPages$Page", "lines", "I", false)
  | _ => ("PoemPages$Page", "marked", "Z", false)
def tyX4 : Nat → FieldType := fun k => match k with
  | 0 => .int
  | 1 => .int
  | 2 => .int
  | 3 => .int
  | _ => .boolean
abbrev wsX40 : List Cond := u_ws RX4 TX4 5
theorem nmX4 : ∀ a, a < 5 → ∀ b, b < 5 → a ≠ b → (TX4 a).2.1 ≠ (TX4 b).2.1 := by decide +kernel
theorem tyX4_ok : ∀ k, k < 5 → parseFieldDescriptor (TX4 k).2.2.1 = some (tyX4 k) := by decide +kernel
abbrev cX4_init : ByteArray := prog_6_method_1_code
def yX4_init : MethodName := ⟨RX4, "<init>", "()V"⟩
def RX5 : String := "PoemPages$Poem"
def TX5 : u_T := fun k => match k with
  | 0 => ("PoemPages$Poem", "lines", "[LPoemPages$Line;", true)
  | 1 => ("PoemPages$Poem", "settings", "[I", true)
  | _ => ("PoemPages$Poem", "count", "I", false)
def tyX5 : Nat → FieldType := fun k => match k with
  | 0 => .array (.object "PoemPages$Line")
  | 1 => .array .int
  | _ => .int
abbrev wsX50 : List Cond := u_ws RX5 TX5 3
theorem nmX5 : ∀ a, a < 3 → ∀ b, b < 3 → a ≠ b → (TX5 a).2.1 ≠ (TX5 b).2.1 := by decide +kernel
theorem tyX5_ok : ∀ k, k < 3 → parseFieldDescriptor (TX5 k).2.2.1 = some (tyX5 k) := by decide +kernel
abbrev cX5_init : ByteArray := prog_7_method_1_code
def yX5_init : MethodName := ⟨RX5, "<init>", "()V"⟩
abbrev cX5_lineAt : ByteArray := prog_7_method_2_code
def yX5_lineAt : MethodName := ⟨RX5, "lineAt", "(I)LPoemPages$Line;"⟩
abbrev cX5_setting : ByteArray := prog_7_method_3_code
def yX5_setting : MethodName := ⟨RX5, "setting", "(I)I"⟩
abbrev cX5_changeSetting : ByteArray := prog_7_method_4_code
def yX5_changeSetting : MethodName := ⟨RX5, "changeSetting", "(II)V"⟩
abbrev cX5_beginsStanza : ByteArray := prog_7_method_5_code
def yX5_beginsStanza : MethodName := ⟨RX5, "beginsStanza", "(I)Z"⟩
abbrev cX5_exchange : ByteArray := prog_7_method_6_code
def yX5_exchange : MethodName := ⟨RX5, "exchange", "(ILPoemPages$Line;)V"⟩
abbrev cX5_putIn : ByteArray := prog_7_method_7_code
def yX5_putIn : MethodName := ⟨RX5, "putIn", "(ILPoemPages$Line;)V"⟩
abbrev cX5_takeOut : ByteArray := prog_7_method_8_code
def yX5_takeOut : MethodName := ⟨RX5, "takeOut", "(I)V"⟩
abbrev cX5_moveLines : ByteArray := prog_7_method_9_code
def yX5_moveLines : MethodName := ⟨RX5, "moveLines", "(III)V"⟩
abbrev cX5_becomeLike : ByteArray := prog_7_method_10_code
def yX5_becomeLike : MethodName := ⟨RX5, "becomeLike", "(LPoemPages$Poem;)V"⟩
abbrev cX5_moveLine : ByteArray := prog_7_method_11_code
def yX5_moveLine : MethodName := ⟨RX5, "moveLine", "(II)V"⟩
def RX6 : String := "PoemPages$Row"
def TX6 : u_T := fun k => match k with
  | 0 => ("PoemPages$Row", "line", "I", false)
  | 1 => ("PoemPages$Row", "part", "I", false)
  | 2 => ("PoemPages$Row", "page", "I", false)
  | 3 => ("PoemPages$Row", "place", "I", false)
  | 4 => ("PoemPages$Row", "column", "I", false)
  | 5 => ("PoemPages$Row", "from", "I", false)
  | 6 => ("PoemPages$Row", "length", "I", false)
  | 7 => ("PoemPages$Row", "shown", "I", false)
  | _ => ("PoemPages$Row", "withinWord", "Z", false)
def tyX6 : Nat → FieldType := fun k => match k with
  | 0 => .int
  | 1 => .int
  | 2 => .int
  | 3 => .int
  | 4 => .int
  | 5 => .int
  | 6 => .int
  | 7 => .int
  | _ => .boolean
abbrev wsX60 : List Cond := u_ws RX6 TX6 9
theorem nmX6 : ∀ a, a < 9 → ∀ b, b < 9 → a ≠ b → (TX6 a).2.1 ≠ (TX6 b).2.1 := by decide +kernel
theorem tyX6_ok : ∀ k, k < 9 → parseFieldDescriptor (TX6 k).2.2.1 = some (tyX6 k) := by decide +kernel
abbrev cX6_init : ByteArray := prog_8_method_1_code
def yX6_init : MethodName := ⟨RX6, "<init>", "()V"⟩
abbrev cX6_end : ByteArray := prog_8_method_2_code
def yX6_end : MethodName := ⟨RX6, "end", "()I"⟩
def RX7 : String := "PoemPages$Stanza"
def TX7 : u_T := fun k => match k with
  | 0 => ("PoemPages$Stanza", "firstLine", "I", false)
  | 1 => ("PoemPages$Stanza", "firstRow", "I", false)
  | _ => ("PoemPages$Stanza", "rows", "I", false)
def tyX7 : Nat → FieldType := fun k => match k with
  | 0 => .int
  | 1 => .int
  | _ => .int
abbrev wsX70 : List Cond := u_ws RX7 TX7 3
theorem nmX7 : ∀ a, a < 3 → ∀ b, b < 3 → a ≠ b → (TX7 a).2.1 ≠ (TX7 b).2.1 := by decide +kernel
theorem tyX7_ok : ∀ k, k < 3 → parseFieldDescriptor (TX7 k).2.2.1 = some (tyX7 k) := by decide +kernel
abbrev cX7_init : ByteArray := prog_9_method_1_code
def yX7_init : MethodName := ⟨RX7, "<init>", "()V"⟩
def RX8 : String := "PoemPages$Text"
def TX8 : u_T := fun k => match k with
  | 0 => ("PoemPages$Text", "bytes", "[B", true)
  | _ => ("PoemPages$Text", "length", "I", false)
def tyX8 : Nat → FieldType := fun k => match k with
  | 0 => .array .byte
  | _ => .int
abbrev wsX80 : List Cond := u_ws RX8 TX8 2
theorem nmX8 : ∀ a, a < 2 → ∀ b, b < 2 → a ≠ b → (TX8 a).2.1 ≠ (TX8 b).2.1 := by decide +kernel
theorem tyX8_ok : ∀ k, k < 2 → parseFieldDescriptor (TX8 k).2.2.1 = some (tyX8 k) := by decide +kernel
abbrev cX8_init : ByteArray := prog_10_method_1_code
def yX8_init : MethodName := ⟨RX8, "<init>", "()V"⟩
abbrev cX8_append : ByteArray := prog_10_method_2_code
def yX8_append : MethodName := ⟨RX8, "append", "(I)V"⟩
abbrev cX8_byteAt : ByteArray := prog_10_method_3_code
def yX8_byteAt : MethodName := ⟨RX8, "byteAt", "(I)I"⟩
abbrev cX8_lineFault : ByteArray := prog_10_method_4_code
def yX8_lineFault : MethodName := ⟨RX8, "lineFault", "()I"⟩
abbrev cX8_shapeFault : ByteArray := prog_10_method_5_code
def yX8_shapeFault : MethodName := ⟨RX8, "shapeFault", "()I"⟩
abbrev cX8_namedShape : ByteArray := prog_10_method_6_code
def yX8_namedShape : MethodName := ⟨RX8, "namedShape", "()I"⟩
abbrev cX8_toLine : ByteArray := prog_10_method_7_code
def yX8_toLine : MethodName := ⟨RX8, "toLine", "()LPoemPages$Line;"⟩
abbrev cX8_behindBlanks : ByteArray := prog_10_method_8_code
def yX8_behindBlanks : MethodName := ⟨RX8, "behindBlanks", "(I)I"⟩
abbrev cX8_behindLetters : ByteArray := prog_10_method_9_code
def yX8_behindLetters : MethodName := ⟨RX8, "behindLetters", "(I)I"⟩
abbrev cX8_isBetween : ByteArray := prog_10_method_10_code
def yX8_isBetween : MethodName := ⟨RX8, "isBetween", "(IILjava/lang/String;)Z"⟩
def RX9 : String := "PoemPages$Words"
def TX9 : u_T := fun k => match k with
  | 0 => ("PoemPages$Words", "bytes", "[B", true)
  | 1 => ("PoemPages$Words", "lengths", "[I", true)
  | 2 => ("PoemPages$Words", "length", "I", false)
  | 3 => ("PoemPages$Words", "count", "I", false)
  | _ => ("PoemPages$Words", "letters", "I", false)
def tyX9 : Nat → FieldType := fun k => match k with
  | 0 => .array .byte
  | 1 => .array .int
  | 2 => .int
  | 3 => .int
  | _ => .int
abbrev wsX90 : List Cond := u_ws RX9 TX9 5
theorem nmX9 : ∀ a, a < 5 → ∀ b, b < 5 → a ≠ b → (TX9 a).2.1 ≠ (TX9 b).2.1 := by decide +kernel
theorem tyX9_ok : ∀ k, k < 5 → parseFieldDescriptor (TX9 k).2.2.1 = some (tyX9 k) := by decide +kernel
abbrev cX9_init : ByteArray := prog_11_method_1_code
def yX9_init : MethodName := ⟨RX9, "<init>", "()V"⟩
abbrev cX9_add : ByteArray := prog_11_method_2_code
def yX9_add : MethodName := ⟨RX9, "add", "(IZ)V"⟩
abbrev cX9_byteAt : ByteArray := prog_11_method_3_code
def yX9_byteAt : MethodName := ⟨RX9, "byteAt", "(I)I"⟩
abbrev cX9_lengthOf : ByteArray := prog_11_method_4_code
def yX9_lengthOf : MethodName := ⟨RX9, "lengthOf", "(I)I"⟩
abbrev cX9_append : ByteArray := prog_11_method_5_code
def yX9_append : MethodName := ⟨RX9, "append", "(I)V"⟩
def RX10 : String := "PoemPages"
def TX10 : u_T := fun k => match k with
  | 0 => ("PoemPages", "text", "LPoemPages$Text;", true)
  | 1 => ("PoemPages", "poem", "LPoemPages$Poem;", true)
  | 2 => ("PoemPages", "history", "LPoemPages$History;", true)
  | 3 => ("PoemPages", "layout", "LPoemPages$Layout;", true)
  | _ => ("PoemPages", "trial", "LPoemPages$Layout;", true)
def tyX10 : Nat → FieldType := fun k => match k with
  | 0 => .object "PoemPages$Text"
  | 1 => .object "PoemPages$Poem"
  | 2 => .object "PoemPages$History"
  | 3 => .object "PoemPages$Layout"
  | _ => .object "PoemPages$Layout"
abbrev wsX100 : List Cond := u_ws RX10 TX10 5
theorem nmX10 : ∀ a, a < 5 → ∀ b, b < 5 → a ≠ b → (TX10 a).2.1 ≠ (TX10 b).2.1 := by decide +kernel
theorem tyX10_ok : ∀ k, k < 5 → parseFieldDescriptor (TX10 k).2.2.1 = some (tyX10 k) := by decide +kernel
abbrev cX10_init : ByteArray := prog_1_method_1_code
def yX10_init : MethodName := ⟨RX10, "<init>", "()V"⟩
abbrev cX10_type : ByteArray := prog_1_method_2_code
def yX10_type : MethodName := ⟨RX10, "type", "(I)I"⟩
abbrev cX10_clear : ByteArray := prog_1_method_3_code
def yX10_clear : MethodName := ⟨RX10, "clear", "()I"⟩
abbrev cX10_fault : ByteArray := prog_1_method_4_code
def yX10_fault : MethodName := ⟨RX10, "fault", "(Z)I"⟩
abbrev cX10_insert : ByteArray := prog_1_method_5_code
def yX10_insert : MethodName := ⟨RX10, "insert", "(I)I"⟩
abbrev cX10_replace : ByteArray := prog_1_method_6_code
def yX10_replace : MethodName := ⟨RX10, "replace", "(I)I"⟩
abbrev cX10_remove : ByteArray := prog_1_method_7_code
def yX10_remove : MethodName := ⟨RX10, "remove", "(I)I"⟩
abbrev cX10_move : ByteArray := prog_1_method_8_code
def yX10_move : MethodName := ⟨RX10, "move", "(III)I"⟩
abbrev cX10_toggle : ByteArray := prog_1_method_9_code
def yX10_toggle : MethodName := ⟨RX10, "toggle", "(IZ)I"⟩
abbrev cX10_line : ByteArray := prog_1_method_10_code
def yX10_line : MethodName := ⟨RX10, "line", "(II)I"⟩
abbrev cX10_letter : ByteArray := prog_1_method_11_code
def yX10_letter : MethodName := ⟨RX10, "letter", "(II)I"⟩
abbrev cX10_set : ByteArray := prog_1_method_12_code
def yX10_set : MethodName := ⟨RX10, "set", "(II)I"⟩
abbrev cX10_undo : ByteArray := prog_1_method_13_code
def yX10_undo : MethodName := ⟨RX10, "undo", "()I"⟩
abbrev cX10_row : ByteArray := prog_1_method_14_code
def yX10_row : MethodName := ⟨RX10, "row", "(II)I"⟩
abbrev cX10_at : ByteArray := prog_1_method_15_code
def yX10_at : MethodName := ⟨RX10, "at", "(III)I"⟩
abbrev cX10_page : ByteArray := prog_1_method_16_code
def yX10_page : MethodName := ⟨RX10, "page", "(II)I"⟩
abbrev cX10_distance : ByteArray := prog_1_method_17_code
def yX10_distance : MethodName := ⟨RX10, "distance", "(I)I"⟩
abbrev cX10_shape : ByteArray := prog_1_method_18_code
def yX10_shape : MethodName := ⟨RX10, "shape", "(I)I"⟩
abbrev cX10_bestWidth : ByteArray := prog_1_method_19_code
def yX10_bestWidth : MethodName := ⟨RX10, "bestWidth", "(I)I"⟩
abbrev cX10_leastHeight : ByteArray := prog_1_method_20_code
def yX10_leastHeight : MethodName := ⟨RX10, "leastHeight", "(I)I"⟩
abbrev cX10_count : ByteArray := prog_1_method_21_code
def yX10_count : MethodName := ⟨RX10, "count", "(I)I"⟩
abbrev cX10_digest : ByteArray := prog_1_method_22_code
def yX10_digest : MethodName := ⟨RX10, "digest", "()J"⟩
abbrev cX10_layOut : ByteArray := prog_1_method_23_code
def yX10_layOut : MethodName := ⟨RX10, "layOut", "()V"⟩
abbrev cX10_numberWithWidth : ByteArray := prog_1_method_24_code
def yX10_numberWithWidth : MethodName := ⟨RX10, "numberWithWidth", "(II)I"⟩
abbrev cX10_countedSetting : ByteArray := prog_1_method_25_code
def yX10_countedSetting : MethodName := ⟨RX10, "countedSetting", "(II)I"⟩
abbrev cX10_byteInRow : ByteArray := prog_1_method_26_code
def yX10_byteInRow : MethodName := ⟨RX10, "byteInRow", "(LPoemPages$Row;I)I"⟩
abbrev cX10_withLines : ByteArray := prog_1_method_27_code
def yX10_withLines : MethodName := ⟨RX10, "withLines", "(J)J"⟩
abbrev cX10_withRows : ByteArray := prog_1_method_28_code
def yX10_withRows : MethodName := ⟨RX10, "withRows", "(J)J"⟩
abbrev cX10_withPages : ByteArray := prog_1_method_29_code
def yX10_withPages : MethodName := ⟨RX10, "withPages", "(J)J"⟩
abbrev cX10_withPlaces : ByteArray := prog_1_method_30_code
def yX10_withPlaces : MethodName := ⟨RX10, "withPlaces", "(J)J"⟩
abbrev cX10_mixed : ByteArray := prog_1_method_31_code
def yX10_mixed : MethodName := ⟨RX10, "mixed", "(JI)J"⟩
abbrev cX10_oneIf : ByteArray := prog_1_method_32_code
def yX10_oneIf : MethodName := ⟨RX10, "oneIf", "(Z)I"⟩
abbrev cX10_element : ByteArray := prog_1_method_33_code
def yX10_element : MethodName := ⟨RX10, "element", "([II)I"⟩
abbrev cX10_isLetter : ByteArray := prog_1_method_34_code
def yX10_isLetter : MethodName := ⟨RX10, "isLetter", "(I)Z"⟩
abbrev cX10_shapeName : ByteArray := prog_1_method_35_code
def yX10_shapeName : MethodName := ⟨RX10, "shapeName", "(I)Ljava/lang/String;"⟩
abbrev cX10_aim : ByteArray := prog_1_method_36_code
def yX10_aim : MethodName := ⟨RX10, "aim", "(IIII)I"⟩
def RX11 : String := "PoemPagesModel"
def TX11 : u_T := fun k => match k with
  | 0 => ("PoemPagesModel", "m", "[I", true)
  | 1 => ("PoemPagesModel", "past", "[I", true)
  | 2 => ("PoemPagesModel", "undos", "I", false)
  | 3 => ("PoemPagesModel", "text", "[I", true)
  | 4 => ("PoemPagesModel", "textLength", "I", false)
  | 5 => ("PoemPagesModel", "at", "I", false)
  | 6 => ("PoemPagesModel", "fault", "I", false)
  | 7 => ("PoemPagesModel", "read", "[I", true)
  | 8 => ("PoemPagesModel", "readShape", "I", false)
  | 9 => ("PoemPagesModel", "rowLine", "[I", true)
  | 10 => ("PoemPagesModel", "rowIndex", "[I", true)
  | 11 => ("PoemPagesModel", "rowFirst", "[I", true)
  | 12 => ("PoemPagesModel", "rowLength", "[I", true)
  | 13 => ("PoemPagesModel", "rowWithin", "[I", true)
  | 14 => ("PoemPagesModel", "rowByte", "[I", true)
  | 15 => ("PoemPagesModel", "rowPage", "[I", true)
  | 16 => ("PoemPagesModel", "rowPlace", "[I", true)
  | 17 => ("PoemPagesModel", "rows", "I", false)
  | 18 => ("PoemPagesModel", "lineStanza", "[I", true)
  | 19 => ("PoemPagesModel", "lineFirst", "[I", true)
  | 20 => ("PoemPagesModel", "lineRows", "[I", true)
  | 21 => ("PoemPagesModel", "stanzaRows", "[I", true)
  | 22 => ("PoemPagesModel", "page", "I", false)
  | 23 => ("PoemPagesModel", "place", "I", false)
  | 24 => ("PoemPagesModel", "isEmpty", "Z", false)
  | _ => ("PoemPagesModel", "hash", "J", false)
def tyX11 : Nat → FieldType := fun k => match k with
  | 0 => .array .int
  | 1 => .array .int
  | 2 => .int
  | 3 => .array .int
  | 4 => .int
  | 5 => .int
  | 6 => .int
  | 7 => .array .int
  | 8 => .int
  | 9 => .array .int
  | 10 => .array .int
  | 11 => .array .int
  | 12 => .array .int
  | 13 => .array .int
  | 14 => .array .int
  | 15 => .array .int
  | 16 => .array .int
  | 17 => .int
  | 18 => .array .int
  | 19 => .array .int
  | 20 => .array .int
  | 21 => .array .int
  | 22 => .int
  | 23 => .int
  | 24 => .boolean
  | _ => .long
abbrev wsX110 : List Cond := u_ws RX11 TX11 26
theorem nmX11 : ∀ a, a < 26 → ∀ b, b < 26 → a ≠ b → (TX11 a).2.1 ≠ (TX11 b).2.1 := by decide +kernel
theorem tyX11_ok : ∀ k, k < 26 → parseFieldDescriptor (TX11 k).2.2.1 = some (tyX11 k) := by decide +kernel
abbrev cX11_init : ByteArray := prog_13_method_1_code
def yX11_init : MethodName := ⟨RX11, "<init>", "()V"⟩
abbrev cX11_in : ByteArray := prog_13_method_2_code
def yX11_in : MethodName := ⟨RX11, "in", "(III)Z"⟩
abbrev cX11_lesser : ByteArray := prog_13_method_3_code
def yX11_lesser : MethodName := ⟨RX11, "lesser", "(II)I"⟩
abbrev cX11_keeps : ByteArray := prog_13_method_4_code
def yX11_keeps : MethodName := ⟨RX11, "keeps", "()V"⟩
abbrev cX11_undo : ByteArray := prog_13_method_5_code
def yX11_undo : MethodName := ⟨RX11, "undo", "()I"⟩
abbrev cX11_type : ByteArray := prog_13_method_6_code
def yX11_type : MethodName := ⟨RX11, "type", "(I)I"⟩
abbrev cX11_clear : ByteArray := prog_13_method_7_code
def yX11_clear : MethodName := ⟨RX11, "clear", "()I"⟩
abbrev cX11_next : ByteArray := prog_13_method_8_code
def yX11_next : MethodName := ⟨RX11, "next", "()I"⟩
abbrev cX11_isLetter : ByteArray := prog_13_method_9_code
def yX11_isLetter : MethodName := ⟨RX11, "isLetter", "()Z"⟩
abbrev cX11_skips : ByteArray := prog_13_method_10_code
def yX11_skips : MethodName := ⟨RX11, "skips", "()V"⟩
abbrev cX11_takes : ByteArray := prog_13_method_11_code
def yX11_takes : MethodName := ⟨RX11, "takes", "(I)Z"⟩
abbrev cX11_readsWord : ByteArray := prog_13_method_12_code
def yX11_readsWord : MethodName := ⟨RX11, "readsWord", "()V"⟩
abbrev cX11_readsLine : ByteArray := prog_13_method_13_code
def yX11_readsLine : MethodName := ⟨RX11, "readsLine", "()V"⟩
abbrev cX11_isName : ByteArray := prog_13_method_14_code
def yX11_isName : MethodName := ⟨RX11, "isName", "(IJI)Z"⟩
abbrev cX11_readsShape : ByteArray := prog_13_method_15_code
def yX11_readsShape : MethodName := ⟨RX11, "readsShape", "()V"⟩
abbrev cX11_fault : ByteArray := prog_13_method_16_code
def yX11_fault : MethodName := ⟨RX11, "fault", "(Z)I"⟩
abbrev cX11_isLine : ByteArray := prog_13_method_17_code
def yX11_isLine : MethodName := ⟨RX11, "isLine", "(I)Z"⟩
abbrev cX11_of : ByteArray := prog_13_method_18_code
def yX11_of : MethodName := ⟨RX11, "of", "(II)I"⟩
abbrev cX11_copies : ByteArray := prog_13_method_19_code
def yX11_copies : MethodName := ⟨RX11, "copies", "(II)V"⟩
abbrev cX11_lays : ByteArray := prog_13_method_20_code
def yX11_lays : MethodName := ⟨RX11, "lays", "(I)V"⟩
abbrev cX11_insert : ByteArray := prog_13_method_21_code
def yX11_insert : MethodName := ⟨RX11, "insert", "(I)I"⟩
abbrev cX11_replace : ByteArray := prog_13_method_22_code
def yX11_replace : MethodName := ⟨RX11, "replace", "(I)I"⟩
abbrev cX11_drops : ByteArray := prog_13_method_23_code
def yX11_drops : MethodName := ⟨RX11, "drops", "(I)V"⟩
abbrev cX11_remove : ByteArray := prog_13_method_24_code
def yX11_remove : MethodName := ⟨RX11, "remove", "(I)I"⟩
abbrev cX11_move : ByteArray := prog_13_method_25_code
def yX11_move : MethodName := ⟨RX11, "move", "(III)I"⟩
abbrev cX11_toggle : ByteArray := prog_13_method_26_code
def yX11_toggle : MethodName := ⟨RX11, "toggle", "(IZ)I"⟩
abbrev cX11_beginsStanza : ByteArray := prog_13_method_27_code
def yX11_beginsStanza : MethodName := ⟨RX11, "beginsStanza", "(I)Z"⟩
abbrev cX11_leans : ByteArray := prog_13_method_28_code
def yX11_leans : MethodName := ⟨RX11, "leans", "(I)Z"⟩
abbrev cX11_stanzaOf : ByteArray := prog_13_method_29_code
def yX11_stanzaOf : MethodName := ⟨RX11, "stanzaOf", "(I)I"⟩
abbrev cX11_stanzas : ByteArray := prog_13_method_30_code
def yX11_stanzas : MethodName := ⟨RX11, "stanzas", "()I"⟩
abbrev cX11_numberOf : ByteArray := prog_13_method_31_code
def yX11_numberOf : MethodName := ⟨RX11, "numberOf", "(I)I"⟩
abbrev cX11_begins : ByteArray := prog_13_method_32_code
def yX11_begins : MethodName := ⟨RX11, "begins", "(IIIII)V"⟩
abbrev cX11_wordFrom : ByteArray := prog_13_method_33_code
def yX11_wordFrom : MethodName := ⟨RX11, "wordFrom", "(II)I"⟩
abbrev cX11_laysRows : ByteArray := prog_13_method_34_code
def yX11_laysRows : MethodName := ⟨RX11, "laysRows", "(I)V"⟩
abbrev cX11_turns : ByteArray := prog_13_method_35_code
def yX11_turns : MethodName := ⟨RX11, "turns", "()V"⟩
abbrev cX11_paginates : ByteArray := prog_13_method_36_code
def yX11_paginates : MethodName := ⟨RX11, "paginates", "(I)V"⟩
abbrev cX11_draws : ByteArray := prog_13_method_37_code
def yX11_draws : MethodName := ⟨RX11, "draws", "()V"⟩
abbrev cX11_pages : ByteArray := prog_13_method_38_code
def yX11_pages : MethodName := ⟨RX11, "pages", "()I"⟩
abbrev cX11_letters : ByteArray := prog_13_method_39_code
def yX11_letters : MethodName := ⟨RX11, "letters", "(I)I"⟩
abbrev cX11_linePart : ByteArray := prog_13_method_40_code
def yX11_linePart : MethodName := ⟨RX11, "linePart", "(II)I"⟩
abbrev cX11_line : ByteArray := prog_13_method_41_code
def yX11_line : MethodName := ⟨RX11, "line", "(II)I"⟩
abbrev cX11_letter : ByteArray := prog_13_method_42_code
def yX11_letter : MethodName := ⟨RX11, "letter", "(II)I"⟩
abbrev cX11_set : ByteArray := prog_13_method_43_code
def yX11_set : MethodName := ⟨RX11, "set", "(II)I"⟩
abbrev cX11_shown : ByteArray := prog_13_method_44_code
def yX11_shown : MethodName := ⟨RX11, "shown", "(I)I"⟩
abbrev cX11_rowPart : ByteArray := prog_13_method_45_code
def yX11_rowPart : MethodName := ⟨RX11, "rowPart", "(II)I"⟩
abbrev cX11_row : ByteArray := prog_13_method_46_code
def yX11_row : MethodName := ⟨RX11, "row", "(II)I"⟩
abbrev cX11_byteAt : ByteArray := prog_13_method_47_code
def yX11_byteAt : MethodName := ⟨RX11, "byteAt", "(II)I"⟩
abbrev cX11_at : ByteArray := prog_13_method_48_code
def yX11_at : MethodName := ⟨RX11, "at", "(III)I"⟩
abbrev cX11_firstOn : ByteArray := prog_13_method_49_code
def yX11_firstOn : MethodName := ⟨RX11, "firstOn", "(I)I"⟩
abbrev cX11_isMarked : ByteArray := prog_13_method_50_code
def yX11_isMarked : MethodName := ⟨RX11, "isMarked", "(I)Z"⟩
abbrev cX11_pagePart : ByteArray := prog_13_method_51_code
def yX11_pagePart : MethodName := ⟨RX11, "pagePart", "(II)I"⟩
abbrev cX11_page : ByteArray := prog_13_method_52_code
def yX11_page : MethodName := ⟨RX11, "page", "(II)I"⟩
abbrev cX11_aim : ByteArray := prog_13_method_53_code
def yX11_aim : MethodName := ⟨RX11, "aim", "(IIII)I"⟩
abbrev cX11_far : ByteArray := prog_13_method_54_code
def yX11_far : MethodName := ⟨RX11, "far", "(II)I"⟩
abbrev cX11_nearest : ByteArray := prog_13_method_55_code
def yX11_nearest : MethodName := ⟨RX11, "nearest", "(I)I"⟩
abbrev cX11_distance : ByteArray := prog_13_method_56_code
def yX11_distance : MethodName := ⟨RX11, "distance", "(I)I"⟩
abbrev cX11_shape : ByteArray := prog_13_method_57_code
def yX11_shape : MethodName := ⟨RX11, "shape", "(I)I"⟩
abbrev cX11_overRows : ByteArray := prog_13_method_58_code
def yX11_overRows : MethodName := ⟨RX11, "overRows", "()I"⟩
abbrev cX11_withinRows : ByteArray := prog_13_method_59_code
def yX11_withinRows : MethodName := ⟨RX11, "withinRows", "()I"⟩
abbrev cX11_bestWidth : ByteArray := prog_13_method_60_code
def yX11_bestWidth : MethodName := ⟨RX11, "bestWidth", "(I)I"⟩
abbrev cX11_leastHeight : ByteArray := prog_13_method_61_code
def yX11_leastHeight : MethodName := ⟨RX11, "leastHeight", "(I)I"⟩
abbrev cX11_marked : ByteArray := prog_13_method_62_code
def yX11_marked : MethodName := ⟨RX11, "marked", "()I"⟩
abbrev cX11_widest : ByteArray := prog_13_method_63_code
def yX11_widest : MethodName := ⟨RX11, "widest", "()I"⟩
abbrev cX11_number : ByteArray := prog_13_method_64_code
def yX11_number : MethodName := ⟨RX11, "number", "(I)I"⟩
abbrev cX11_count : ByteArray := prog_13_method_65_code
def yX11_count : MethodName := ⟨RX11, "count", "(I)I"⟩
abbrev cX11_mixes : ByteArray := prog_13_method_66_code
def yX11_mixes : MethodName := ⟨RX11, "mixes", "(J)V"⟩
abbrev cX11_digest : ByteArray := prog_13_method_67_code
def yX11_digest : MethodName := ⟨RX11, "digest", "()J"⟩
def RJ9 : String := "java/lang/Math"
def TJ9 : u_T := fun k => match k with
  | _ => ("", "", "", false)
def tyJ9 : Nat → FieldType := fun k => match k with
  | _ => .int
abbrev wsJ90 : List Cond := u_ws RJ9 TJ9 0
theorem nmJ9 : ∀ a, a < 0 → ∀ b, b < 0 → a ≠ b → (TJ9 a).2.1 ≠ (TJ9 b).2.1 := by decide +kernel
theorem tyJ9_ok : ∀ k, k < 0 → parseFieldDescriptor (TJ9 k).2.2.1 = some (tyJ9 k) := by decide +kernel
abbrev cJ9_abs_0f7a4 : ByteArray := prog_14_method_59_code
def yJ9_abs_0f7a4 : MethodName := ⟨RJ9, "abs", "(I)I"⟩
abbrev cJ9_max_7cf53 : ByteArray := prog_14_method_65_code
def yJ9_max_7cf53 : MethodName := ⟨RJ9, "max", "(II)I"⟩
abbrev cJ9_min_7cf53 : ByteArray := prog_14_method_69_code
def yJ9_min_7cf53 : MethodName := ⟨RJ9, "min", "(II)I"⟩
def RJ0 : String := "java/lang/String"
def TJ0 : u_T := fun k => match k with
  | _ => ("", "", "", false)
def tyJ0 : Nat → FieldType := fun k => match k with
  | _ => .int
abbrev wsJ00 : List Cond := u_ws RJ0 TJ0 0
theorem nmJ0 : ∀ a, a < 0 → ∀ b, b < 0 → a ≠ b → (TJ0 a).2.1 ≠ (TJ0 b).2.1 := by decide +kernel
theorem tyJ0_ok : ∀ k, k < 0 → parseFieldDescriptor (TJ0 k).2.2.1 = some (tyJ0 k) := by decide +kernel
abbrev cJ0_length_8abf5 : ByteArray := prog_15_method_54_code
def yJ0_length_8abf5 : MethodName := ⟨RJ0, "length", "()I"⟩
abbrev cJ0_charAt_5068e : ByteArray := prog_15_method_56_code
def yJ0_charAt_5068e : MethodName := ⟨RJ0, "charAt", "(I)C"⟩
abbrev cJ0_coder_7d493 : ByteArray := prog_15_method_152_code
def yJ0_coder_7d493 : MethodName := ⟨RJ0, "coder", "()B"⟩
abbrev cJ0_isLatin1_aae02 : ByteArray := prog_15_method_154_code
def yJ0_isLatin1_aae02 : MethodName := ⟨RJ0, "isLatin1", "()Z"⟩
abbrev cJ0_checkIndex_df160 : ByteArray := prog_15_method_155_code
def yJ0_checkIndex_df160 : MethodName := ⟨RJ0, "checkIndex", "(II)V"⟩
def RJ1 : String := "java/lang/StringLatin1"
def TJ1 : u_T := fun k => match k with
  | _ => ("", "", "", false)
def tyJ1 : Nat → FieldType := fun k => match k with
  | _ => .int
abbrev wsJ10 : List Cond := u_ws RJ1 TJ1 0
theorem nmJ1 : ∀ a, a < 0 → ∀ b, b < 0 → a ≠ b → (TJ1 a).2.1 ≠ (TJ1 b).2.1 := by decide +kernel
theorem tyJ1_ok : ∀ k, k < 0 → parseFieldDescriptor (TJ1 k).2.2.1 = some (tyJ1 k) := by decide +kernel
abbrev cJ1_charAt_3b067 : ByteArray := prog_16_method_2_code
def yJ1_charAt_3b067 : MethodName := ⟨RJ1, "charAt", "([BI)C"⟩
def RJ2 : String := "java/lang/StringUTF16"
def TJ2 : u_T := fun k => match k with
  | _ => ("", "", "", false)
def tyJ2 : Nat → FieldType := fun k => match k with
  | _ => .int
abbrev wsJ20 : List Cond := u_ws RJ2 TJ2 0
theorem nmJ2 : ∀ a, a < 0 → ∀ b, b < 0 → a ≠ b → (TJ2 a).2.1 ≠ (TJ2 b).2.1 := by decide +kernel
theorem tyJ2_ok : ∀ k, k < 0 → parseFieldDescriptor (TJ2 k).2.2.1 = some (tyJ2 k) := by decide +kernel
abbrev cJ2_getChar_3b067 : ByteArray := prog_17_method_5_code
def yJ2_getChar_3b067 : MethodName := ⟨RJ2, "getChar", "([BI)C"⟩
abbrev cJ2_length_9d52b : ByteArray := prog_17_method_6_code
def yJ2_length_9d52b : MethodName := ⟨RJ2, "length", "([B)I"⟩
abbrev cJ2_charAt_3b067 : ByteArray := prog_17_method_83_code
def yJ2_charAt_3b067 : MethodName := ⟨RJ2, "charAt", "([BI)C"⟩
abbrev cJ2_checkIndex_2214a : ByteArray := prog_17_method_91_code
def yJ2_checkIndex_2214a : MethodName := ⟨RJ2, "checkIndex", "(I[B)V"⟩
def RJ3 : String := "jdk/internal/util/Preconditions"
def TJ3 : u_T := fun k => match k with
  | _ => ("", "", "", false)
def tyJ3 : Nat → FieldType := fun k => match k with
  | _ => .int
abbrev wsJ30 : List Cond := u_ws RJ3 TJ3 0
theorem nmJ3 : ∀ a, a < 0 → ∀ b, b < 0 → a ≠ b → (TJ3 a).2.1 ≠ (TJ3 b).2.1 := by decide +kernel
theorem tyJ3_ok : ∀ k, k < 0 → parseFieldDescriptor (TJ3 k).2.2.1 = some (tyJ3 k) := by decide +kernel
abbrev cJ3_checkIndex_8e157 : ByteArray := prog_18_method_11_code
def yJ3_checkIndex_8e157 : MethodName := ⟨RJ3, "checkIndex", "(IILjava/util/function/BiFunction;)I"⟩
def RL : String := "PoemPagesLaw"
abbrev cL_law : ByteArray := code
def yL_law : MethodName := ⟨RL, "law", "([I)Z"⟩
theorem inJ9 : ∀ w ∈ wsJ90, w ∈ lw_tbl := by decide +kernel
theorem inJ0 : ∀ w ∈ wsJ00, w ∈ lw_tbl := by decide +kernel
theorem inJ1 : ∀ w ∈ wsJ10, w ∈ lw_tbl := by decide +kernel
theorem inJ2 : ∀ w ∈ wsJ20, w ∈ lw_tbl := by decide +kernel
theorem inJ3 : ∀ w ∈ wsJ30, w ∈ lw_tbl := by decide +kernel
abbrev vwCl : List vw_C := [(RX0, TX0, 2), (RX1, TX1, 9), (RX2, TX2, 4), (RX3, TX3, 5), (RX4, TX4, 5), (RX5, TX5, 3), (RX6, TX6, 9), (RX7, TX7, 3), (RX8, TX8, 2), (RX9, TX9, 5), (RX10, TX10, 5), (RX11, TX11, 26)]
/-! ===== END printed: names ===== -/



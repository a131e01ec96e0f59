theorem tbm {w : Cond} (h1 : w ∈ lw_tbl) (h2 : goodWord w = true) : w ∈ TBL := List.mem_filter.mpr ⟨h1, h2⟩
section OKT
variable {p : Program} {l : Launch} {e : Env} {R : Room} {s : State} {m : MethodId} {args : Array Value} {below : List Frame} {meth : Method} {c : Code} {Q : State → Prop} {Γ : GE} {σ0 σ : St} {nL pc : Nat} {cc : ByteArray} {own : String} {L L' : List (Nat × Value)} {st : List Value} {H : Heap}
theorem st_S (cx : Cx p R s m args c Γ nL σ0 cc own) (hR : RepH Γ σ H) : vk_S 5 strLen strByt (gK Γ) (gV Γ) (fun q => gB Γ ≤ q) s H := vk_S.kept cx.2.2.2.2.2.1.2.2.2.2.2.2.1.1 (fun a _ h => hR.2.2.1 a (Nat.not_le.mp h))
theorem k_tget (cx : Cx p R s m args c Γ nL σ0 cc own) {a idx : Nat} {n d : String} {v : Value} (hE : ∀ H, RepH Γ σ H → va_OF "java/lang/String" n d v a (fun q => gB Γ ≤ q) s H) (hl : Cond.fieldLink own idx "java/lang/String" n d ∈ TBL) (hd : decode cc pc = .ok (.getfield idx, 3)) (h : Ok p l e R s m args below meth c Γ nL Q (pc + 3) L (v :: st) σ) : Ok p l e R s m args below meth c Γ nL Q pc L (va_rf (some a) :: st) σ := by
  intro H locs ls hR hL hls
  obtain ⟨cf, k, fi, f, cell, h1, h2, h3, h4, h5, h6⟩ := hE H hR
  exact W.getf cx.1 cx.2.1 cx.2.2.2.1 (cx.2.2.2.2.1 _ hl) h1 h2 h3 h4 (v := v) h5 rfl rfl hd (h H locs ls hR hL hls)
theorem k_zget (cx : Cx p R s m args c Γ nL σ0 cc own) {idx : Nat} {C n d : String} {v : Value} (hZ : va_Z C n d v (fun q => gB Γ ≤ q) s (gH Γ)) (hl : Cond.fieldLink own idx C n d ∈ TBL) (hd : decode cc pc = .ok (.getstatic idx, 3)) (h : Ok p l e R s m args below meth c Γ nL Q (pc + 3) L (v :: st) σ) : Ok p l e R s m args below meth c Γ nL Q pc L st σ := by
  intro H locs ls hR hL hls
  obtain ⟨cf, kf, fi, f, a, cell, h1, h2, h3, h4, h5, h6, h7, h8⟩ := hZ
  refine W.gets cx.1 cx.2.1 cx.2.2.2.1 (cx.2.2.2.2.1 _ hl) h1 h2 h3 h4 (v := v) (by rw [hR.2.2.1 a (Nat.not_le.mp h8)]; exact h5) (fun e => by rw [e] at h6; cases h6) h7 rfl hd (h H locs ls hR hL hls)
theorem k_talen (cx : Cx p R s m args c Γ nL σ0 cc own) {i : Nat} (hi : i < 5) (hd : decode cc pc = .ok (.arraylength, 1)) (h : Ok p l e R s m args below meth c Γ nL Q (pc + 1) L (.int (nI (strLen.getD i 0)) :: st) σ) : Ok p l e R s m args below meth c Γ nL Q pc L (va_rf (some (gV Γ i)) :: st) σ := by
  intro H locs ls hR hL hls
  obtain ⟨cell, h1, h2, h3, h4, h5, h6, h7⟩ := ((st_S cx hR).1 i hi).2.2.2
  exact W.alen (n := nI (strLen.getD i 0)) cx.1 cx.2.1 h1 h2 h5 rfl rfl hd (h H locs ls hR hL hls)
theorem k_tbald (cx : Cx p R s m args c Γ nL σ0 cc own) {i j : Nat} {k : Int32} (hi : ixS k i = some j) (hd : decode cc pc = .ok (.baload, 1)) (h : Ok p l e R s m args below meth c Γ nL Q (pc + 1) L (.int ((strByt.getD i []).getD j 0) :: st) σ) : Ok p l e R s m args below meth c Γ nL Q pc L (.int k :: va_rf (some (gV Γ i)) :: st) σ := by
  intro H locs ls hR hL hls
  by_cases h5 : i < 5
  · rw [ixS, if_pos h5] at hi
    obtain ⟨hin, rfl⟩ := ix_some hi
    obtain ⟨cell, h1, h2, h3, h4, hz, h6, h7⟩ := ((st_S cx hR).1 i h5).2.2.2
    exact W.bald (v := .int ((strByt.getD i []).getD k.toNatClampNeg 0)) cx.1 cx.2.1 h1 h2 h3 (fun q => hin (q.imp (fun x => x) (fun x => Nat.le_trans h4 x))) (h6 _ (Nat.not_le.mp fun q => hin (Or.inr q))) rfl rfl hd (h H locs ls hR hL hls)
  · rw [ixS, if_neg h5] at hi; cases hi
theorem k_tret (cx : Cx p R s m args c Γ nL σ0 cc own) {ty : FieldType} (hr : meth.sig.returnType = some ty) (hlk : meth.locks = false) {v : Int32} {rv : Option Value} {σ1 : St} (hz : narrow ty (.int v) = .int v) (hv : rv = some (.int v)) (hσ : σ1 = σ) (hd : decode cc pc = .ok (.ireturn, 1)) : Ok p l e R s m args below meth c Γ nL (MQ below (Qr Γ rv σ1) args s R.cells R.slots (fun q => gB Γ ≤ q)) pc L [.int v] σ := by
  subst hv; subst hσ
  exact fun H locs ls hR hL hls => W.zret cx.1 cx.2.1 hr hz (fun t ht _ => ⟨rfl, by rw [ht]; exact hR⟩) hL hd hlk
theorem k_tshr (cx : Cx p R s m args c Γ nL σ0 cc own) {x y : Int32} (hd : decode cc pc = .ok (.ishr, 1)) (h : Ok p l e R s m args below meth c Γ nL Q (pc + 1) L (.int (x >>> (y &&& 31)) :: st) σ) : Ok p l e R s m args below meth c Γ nL Q pc L (.int y :: .int x :: st) σ :=
  fun H locs ls hR hL hls => lv_ishr cx.1 cx.2.1 hd (h H locs ls hR hL hls)
theorem k_ti2c (cx : Cx p R s m args c Γ nL σ0 cc own) {x v : Int32} (hd : decode cc pc = .ok (.i2c, 1)) (hv : (x.toUInt32 % 65536).toInt32 = v) (h : Ok p l e R s m args below meth c Γ nL Q (pc + 1) L (.int v :: st) σ) : Ok p l e R s m args below meth c Γ nL Q pc L (.int x :: st) σ :=
  fun H locs ls hR hL hls => lv_i2c cx.1 cx.2.1 hd hv (h H locs ls hR hL hls)
theorem k_tpop (cx : Cx p R s m args c Γ nL σ0 cc own) {v : Value} (hd : decode cc pc = .ok (.pop, 1)) (hv : v.category = 1) (h : Ok p l e R s m args below meth c Γ nL Q (pc + 1) L st σ) : Ok p l e R s m args below meth c Γ nL Q pc L (v :: st) σ :=
  fun H locs ls hR hL hls => lv_pop cx.1 cx.2.1 hd hv (h H locs ls hR hL hls)
/-- a call on a string -/
theorem k_tcall (cx : Cx p R s m args c Γ nL σ0 cc own) {idx i : Nat} {y : MethodName} {b : ByteArray} {mL n fr lo : Nat} {ret : Option FieldType} {As st0 : List Value} {rv : Option Value} {σ1 : St} (iv : IV own idx "java/lang/String" y b mL ret n) (hi : i < 5) (ct : Ct Γ y b mL ret fr lo (va_rf (some (gK Γ i)) :: As) σ rv σ1) (hst : st0 = As.reverse ++ va_rf (some (gK Γ i)) :: st) (hn : As.length = n) (hfr : fr + 1 ≤ R.frames ∧ 8 + (mL + 11) + lo ≤ R.locals) (hw : (st.map fun v => v.category).sum ≤ 8) (hd : decode cc pc = .ok (.invokevirtual idx, 3)) (h : Ok p l e R s m args below meth c Γ nL Q (pc + 3) L (rv.toList ++ st) σ1) : Ok p l e R s m args below meth c Γ nL Q pc L st0 σ := by
  subst hst
  obtain ⟨⟨w1, w2, w3, w4, w5⟩, d1, d2, d3, d4⟩ := iv
  have hts := cx.2.2.2.2.1
  refine k_run (a := (va_rf (some (gK Γ i)) :: As).toArray) cx (fun H locs ls hR hls m1 m2 => ?_) h
  obtain ⟨cell, q1, q2, q3, -⟩ := ((st_S cx hR).1 i hi).1
  have hrc := cx.2.2.2.2.2.2.2
  have h8 := hR.2.2.2.2.2.2.2
  exact va_runV (As := As) (rest := st) ⟨cx.1, cx.2.1, cx.2.2.1, cx.2.2.2.1, hts⟩ (ct l) ⟨callB_of n hts (gi_code w5) rfl rfl rfl (by rw [d1]; exact hts _ w4) (hts _ w1) ⟨d2, d3, d4⟩ hfr, hts _ w2, hts _ w3⟩ ⟨blindP, ⟨cell, q1, q2, q3⟩, rp_pre cx hR⟩ rfl hn hls.1 rfl (lv_room hw) hd ⟨by omega, by omega⟩
end OKT
theorem fl_J0_9 : Cond.fieldLink RJ0 9 "java/lang/String" "value" "[B" ∈ TBL := tbm (by decide +kernel) rfl
theorem fl_J0_15 : Cond.fieldLink RJ0 15 "java/lang/String" "coder" "B" ∈ TBL := tbm (by decide +kernel) rfl
theorem fl_J0_38 : Cond.fieldLink RJ0 38 "java/lang/String" "COMPACT_STRINGS" "Z" ∈ TBL := tbm (by decide +kernel) rfl
theorem fl_J0_1053 : Cond.fieldLink RJ0 1053 "jdk/internal/util/Preconditions" "SIOOBE_FORMATTER" "Ljava/util/function/BiFunction;" ∈ TBL := tbm (by decide +kernel) rfl
theorem iv_J0_335 : IV RJ0 335 "java/lang/String" yJ0_coder_7d493 cJ0_coder_7d493 1 (some .byte) 0 := ⟨⟨tbm (by decide +kernel) rfl, tbm (by decide +kernel) rfl, tbm (by decide +kernel) rfl, tbm (by decide +kernel) rfl, tbm (by decide +kernel) rfl⟩, rfl, by decide, by decide, by decide +kernel⟩
theorem iv_J0_492 : IV RJ0 492 "java/lang/String" yJ0_isLatin1_aae02 cJ0_isLatin1_aae02 1 (some .boolean) 0 := ⟨⟨tbm (by decide +kernel) rfl, tbm (by decide +kernel) rfl, tbm (by decide +kernel) rfl, tbm (by decide +kernel) rfl, tbm (by decide +kernel) rfl⟩, rfl, by decide, by decide, by decide +kernel⟩
theorem is_J0_495 : IS RJ0 495 yJ1_charAt_3b067 cJ1_charAt_3b067 2 (some .char) 2 := ⟨⟨tbm (by decide +kernel) rfl, tbm (by decide +kernel) rfl, tbm (by decide +kernel) rfl, tbm (by decide +kernel) rfl⟩, by decide, by decide, by decide +kernel⟩
theorem is_J1_9 : IS RJ1 9 yJ0_checkIndex_df160 cJ0_checkIndex_df160 2 none 2 := ⟨⟨tbm (by decide +kernel) rfl, tbm (by decide +kernel) rfl, tbm (by decide +kernel) rfl, tbm (by decide +kernel) rfl⟩, by decide, by decide, by decide +kernel⟩
theorem is_J0_1059 : IS RJ0 1059 yJ3_checkIndex_8e157 cJ3_checkIndex_8e157 3 (some .int) 3 := ⟨⟨tbm (by decide +kernel) rfl, tbm (by decide +kernel) rfl, tbm (by decide +kernel) rfl, tbm (by decide +kernel) rfl⟩, by decide, by decide, by decide +kernel⟩
theorem w_coder {Γ : GE} {σ : St} {i : Nat} (hi : i < 5) : Ct Γ yJ0_coder_7d493 cJ0_coder_7d493 1 (some .byte) 0 0 [va_rf (some (gK Γ i))] σ (some (.int 0)) σ := by
  refine ct_intro (own := RJ0) (L0 := [(0, va_rf (some (gK Γ i)))]) (by decide +kernel) rfl (by simp [lg_sl, cat_rf, cat_i, cat_j]) (by simp [lv_args, cat_rf, cat_i, cat_j]) ?_
  intro p l e s m args below meth c hr hlk hin cx
  refine k_zget cx cx.2.2.2.2.2.1.2.2.2.2.2.2.2.1 fl_J0_38 dJ0_coder_7d493_0 ?_
  refine k_if_eq cx 13 dJ0_coder_7d493_3 (by decide) (fun q => absurd q (by decide)) (fun _ => ?_)
  refine k_aload_n cx 0 dJ0_coder_7d493_6 rfl rfl ?_
  refine k_tget cx (fun H hR => ((st_S cx hR).1 i hi).2.1) fl_J0_15 dJ0_coder_7d493_7 ?_
  refine k_goto cx 14 dJ0_coder_7d493_10 (by decide) ?_
  exact k_tret cx hr hlk rfl rfl rfl dJ0_coder_7d493_14
theorem w_isLatin1 {Γ : GE} {σ : St} {i : Nat} (hi : i < 5) : Ct Γ yJ0_isLatin1_aae02 cJ0_isLatin1_aae02 1 (some .boolean) 0 0 [va_rf (some (gK Γ i))] σ (some (.int 1)) σ := by
  refine ct_intro (own := RJ0) (L0 := [(0, va_rf (some (gK Γ i)))]) (by decide +kernel) rfl (by simp [lg_sl, cat_rf, cat_i, cat_j]) (by simp [lv_args, cat_rf, cat_i, cat_j]) ?_
  intro p l e s m args below meth c hr hlk hin cx
  refine k_zget cx cx.2.2.2.2.2.1.2.2.2.2.2.2.2.1 fl_J0_38 dJ0_isLatin1_aae02_0 ?_
  refine k_if_eq cx 17 dJ0_isLatin1_aae02_3 (by decide) (fun q => absurd q (by decide)) (fun _ => ?_)
  refine k_aload_n cx 0 dJ0_isLatin1_aae02_6 rfl rfl ?_
  refine k_tget cx (fun H hR => ((st_S cx hR).1 i hi).2.1) fl_J0_15 dJ0_isLatin1_aae02_7 ?_
  refine k_if_ne cx 17 dJ0_isLatin1_aae02_10 (by decide) (fun q => absurd rfl q) (fun _ => ?_)
  refine k_iconst cx 1 dJ0_isLatin1_aae02_13 (by decide) ?_
  refine k_goto cx 18 dJ0_isLatin1_aae02_14 (by decide) ?_
  exact k_tret cx hr hlk rfl rfl rfl dJ0_isLatin1_aae02_18
theorem w_pcheck {Γ : GE} {σ : St} {k n : Int32} {x : Option Nat} (h1 : ¬ k < 0) (h2 : k < n) : Ct Γ yJ3_checkIndex_8e157 cJ3_checkIndex_8e157 3 (some .int) 0 0 [.int k, .int n, va_rf x] σ (some (.int k)) σ := by
  refine ct_intro (own := RJ3) (L0 := [(0, .int k), (1, .int n), (2, va_rf x)]) (by decide +kernel) rfl (by simp [lg_sl, cat_rf, cat_i, cat_j]) (by simp [lv_args, cat_rf, cat_i, cat_j]) ?_
  intro p l e s m args below meth c hr hlk hin cx
  refine k_iload_n cx 0 dJ3_checkIndex_8e157_0 rfl rfl ?_
  refine k_if_lt cx 9 dJ3_checkIndex_8e157_1 (by decide) (fun q => absurd q h1) (fun _ => ?_)
  refine k_iload_n cx 0 dJ3_checkIndex_8e157_4 rfl rfl ?_
  refine k_iload_n cx 1 dJ3_checkIndex_8e157_5 rfl rfl ?_
  refine k_icmp_lt cx 16 dJ3_checkIndex_8e157_6 (by decide) (fun _ => ?_) (fun q => absurd h2 q)
  refine k_iload_n cx 0 dJ3_checkIndex_8e157_16 rfl rfl ?_
  exact k_iret cx hr hlk rfl rfl dJ3_checkIndex_8e157_17
theorem w_scheck {Γ : GE} {σ : St} {k n : Int32} (h1 : ¬ k < 0) (h2 : k < n) : Ct Γ yJ0_checkIndex_df160 cJ0_checkIndex_df160 2 none 1 22 [.int k, .int n] σ none σ := by
  refine ct_intro (own := RJ0) (L0 := [(0, .int k), (1, .int n)]) (by decide +kernel) rfl (by simp [lg_sl, cat_rf, cat_i, cat_j]) (by simp [lv_args, cat_rf, cat_i, cat_j]) ?_
  intro p l e s m args below meth c hr hlk hin cx
  refine k_iload_n cx 0 dJ0_checkIndex_df160_0 rfl rfl ?_
  refine k_iload_n cx 1 dJ0_checkIndex_df160_1 rfl rfl ?_
  obtain ⟨v, hv, hZ⟩ := cx.2.2.2.2.2.1.2.2.2.2.2.2.2.2
  obtain ⟨x, rfl⟩ : ∃ x : Option Nat, v = va_rf x := by
    rcases hv with q | ⟨t, q⟩
    · exact ⟨none, q⟩
    · exact ⟨some t, q⟩
  refine k_zget cx hZ fl_J0_1053 dJ0_checkIndex_df160_2 ?_
  refine k_callS cx is_J0_1059 (w_pcheck h1 h2) (As := [.int k, .int n, va_rf x]) rfl rfl ⟨Nat.le_of_ble_eq_true rfl, Nat.le_of_ble_eq_true rfl⟩ (by simp [cat_rf, cat_i, cat_j]) dJ0_checkIndex_df160_5 ?_
  refine k_tpop cx dJ0_checkIndex_df160_8 rfl ?_
  exact k_vret cx hr hlk rfl rfl dJ0_checkIndex_df160_9
theorem by_lat : ∀ i, i < 5 → ∀ j, j < strLen.getD i 0 → (((((strByt.getD i []).getD j 0) &&& 255).toUInt32 % 65536).toInt32 = (strByt.getD i []).getD j 0) ∧ narrow .char (.int ((strByt.getD i []).getD j 0)) = .int ((strByt.getD i []).getD j 0) := by decide +kernel
theorem ixS_b {k : Int32} {i j : Nat} (h : ixS k i = some j) : i < 5 ∧ j < strLen.getD i 0 ∧ ¬ k < 0 ∧ k < nI (strLen.getD i 0) := by
  by_cases h5 : i < 5
  · rw [ixS, if_pos h5] at h
    obtain ⟨hin, rfl⟩ := ix_some h
    have hs : strLen.getD i 0 ≤ 7 := (by decide : ∀ i, i < 5 → strLen.getD i 0 ≤ 7) i h5
    have hj : k.toNatClampNeg < strLen.getD i 0 := Nat.not_le.mp fun q => hin (Or.inr q)
    have hk : ¬ k < 0 := fun q => hin (Or.inl q)
    refine ⟨h5, hj, hk, ?_⟩
    have q0 : ¬ k.toInt < 0 := fun q => hk (Int32.lt_iff_toInt_lt.mpr q)
    have q1 : k.toNatClampNeg = k.toInt.toNat := rfl
    rw [Int32.lt_iff_toInt_lt, nI, Int32.toInt_ofNat_small (by omega)]
    omega
  · rw [ixS, if_neg h5] at h; cases h
theorem w_lcharAt {Γ : GE} {σ : St} {k : Int32} {i j : Nat} (h : ixS k i = some j) : Ct Γ yJ1_charAt_3b067 cJ1_charAt_3b067 2 (some .char) 2 43 [va_rf (some (gV Γ i)), .int k] σ (some (.int ((strByt.getD i []).getD j 0))) σ := by
  obtain ⟨h5, hj, h1, h2⟩ := ixS_b h
  refine ct_intro (own := RJ1) (L0 := [(0, va_rf (some (gV Γ i))), (1, .int k)]) (by decide +kernel) rfl (by simp [lg_sl, cat_rf, cat_i, cat_j]) (by simp [lv_args, cat_rf, cat_i, cat_j]) ?_
  intro p l e s m args below meth c hr hlk hin cx
  refine k_iload_n cx 1 dJ1_charAt_3b067_0 rfl rfl ?_
  refine k_aload_n cx 0 dJ1_charAt_3b067_1 rfl rfl ?_
  refine k_talen cx h5 dJ1_charAt_3b067_2 ?_
  refine k_callS cx is_J1_9 (w_scheck h1 h2) (As := [.int k, .int (nI (strLen.getD i 0))]) rfl rfl ⟨Nat.le_of_ble_eq_true rfl, Nat.le_of_ble_eq_true rfl⟩ (by simp [cat_rf, cat_i, cat_j]) dJ1_charAt_3b067_3 ?_
  refine k_aload_n cx 0 dJ1_charAt_3b067_6 rfl rfl ?_
  refine k_iload_n cx 1 dJ1_charAt_3b067_7 rfl rfl ?_
  refine k_tbald cx h dJ1_charAt_3b067_8 ?_
  refine k_sipush cx 255 dJ1_charAt_3b067_9 (by decide) ?_
  refine k_iand cx dJ1_charAt_3b067_12 ?_
  refine k_ti2c cx dJ1_charAt_3b067_13 (by_lat i h5 j hj).1 ?_
  exact k_tret cx hr hlk (by_lat i h5 j hj).2 rfl rfl dJ1_charAt_3b067_14
theorem w_scharAt {Γ : GE} {σ : St} {k : Int32} {i j : Nat} (h : ixS k i = some j) : Ct Γ yJ0_charAt_5068e cJ0_charAt_5068e 2 (some .char) 3 64 [va_rf (some (gK Γ i)), .int k] σ (some (.int ((strByt.getD i []).getD j 0))) σ := by
  obtain ⟨h5, hj, h1, h2⟩ := ixS_b h
  refine ct_intro (own := RJ0) (L0 := [(0, va_rf (some (gK Γ i))), (1, .int k)]) (by decide +kernel) rfl (by simp [lg_sl, cat_rf, cat_i, cat_j]) (by simp [lv_args, cat_rf, cat_i, cat_j]) ?_
  intro p l e s m args below meth c hr hlk hin cx
  refine k_aload_n cx 0 dJ0_charAt_5068e_0 rfl rfl ?_
  refine k_tcall cx iv_J0_492 h5 (w_isLatin1 h5) (As := []) rfl rfl ⟨Nat.le_of_ble_eq_true rfl, Nat.le_of_ble_eq_true rfl⟩ (by simp [cat_rf, cat_i, cat_j]) dJ0_charAt_5068e_1 ?_
  refine k_if_eq cx 16 dJ0_charAt_5068e_4 (by decide) (fun q => absurd q (by decide)) (fun _ => ?_)
  refine k_aload_n cx 0 dJ0_charAt_5068e_7 rfl rfl ?_
  refine k_tget cx (v := va_rf (some (gV Γ i))) (fun H hR => ((st_S cx hR).1 i h5).2.2.1) fl_J0_9 dJ0_charAt_5068e_8 ?_
  refine k_iload_n cx 1 dJ0_charAt_5068e_11 rfl rfl ?_
  refine k_callS cx is_J0_495 (w_lcharAt h) (As := [va_rf (some (gV Γ i)), .int k]) rfl rfl ⟨Nat.le_of_ble_eq_true rfl, Nat.le_of_ble_eq_true rfl⟩ (by simp [cat_rf, cat_i, cat_j]) dJ0_charAt_5068e_12 ?_
  exact k_tret cx hr hlk (by_lat i h5 j hj).2 rfl rfl dJ0_charAt_5068e_15
theorem w_slength {Γ : GE} {σ : St} {i : Nat} (hi : i < 5) : Ct Γ yJ0_length_8abf5 cJ0_length_8abf5 1 (some .int) 1 20 [va_rf (some (gK Γ i))] σ (some (.int (nI (strLen.getD i 0)))) σ := by
  refine ct_intro (own := RJ0) (L0 := [(0, va_rf (some (gK Γ i)))]) (by decide +kernel) rfl (by simp [lg_sl, cat_rf, cat_i, cat_j]) (by simp [lv_args, cat_rf, cat_i, cat_j]) ?_
  intro p l e s m args below meth c hr hlk hin cx
  refine k_aload_n cx 0 dJ0_length_8abf5_0 rfl rfl ?_
  refine k_tget cx (v := va_rf (some (gV Γ i))) (fun H hR => ((st_S cx hR).1 i hi).2.2.1) fl_J0_9 dJ0_length_8abf5_1 ?_
  refine k_talen cx hi dJ0_length_8abf5_4 ?_
  refine k_aload_n cx 0 dJ0_length_8abf5_5 rfl rfl ?_
  refine k_tcall cx iv_J0_335 hi (w_coder hi) (As := []) rfl rfl ⟨Nat.le_of_ble_eq_true rfl, Nat.le_of_ble_eq_true rfl⟩ (by simp [cat_rf, cat_i, cat_j]) dJ0_length_8abf5_6 ?_
  refine k_tshr cx dJ0_length_8abf5_9 ?_
  exact k_iret cx hr hlk (by rw [(by decide +kernel : ∀ i, i < 5 → nI (strLen.getD i 0) >>> ((0 : Int32) &&& 31) = nI (strLen.getD i 0)) i hi]) rfl dJ0_length_8abf5_10
section OKS
variable {p : Program} {l : Launch} {e : Env} {R : Room} {s : State} {m : MethodId} {args : Array Value} {below : List Frame} {meth : Method} {c : Code} {Q : State → Prop} {Γ : GE} {σ0 σ : St} {nL pc : Nat} {cc : ByteArray} {own : String} {L L' : List (Nat × Value)} {st : List Value}
theorem k_slen (cx : Cx p R s m args c Γ nL σ0 cc own) {i j idx : Nat} (hl : Cond.methodLink own idx yJ0_length_8abf5 ∈ TBL) (hi : kS i = some j) (hfr : 2 ≤ R.frames ∧ 60 ≤ R.locals) (hw : (st.map fun v => v.category).sum ≤ 8) (hd : decode cc pc = .ok (.invokevirtual idx, 3)) (h : Ok p l e R s m args below meth c Γ nL Q (pc + 3) L (.int (nI (strLen.getD i 0)) :: st) σ) : Ok p l e R s m args below meth c Γ nL Q pc L (va_rf (some (gK Γ i)) :: st) σ := by
  have h5 : i < 5 := by
    by_cases q : i < 5
    · exact q
    · rw [kS, if_neg q] at hi; cases hi
  have iv : IV own idx "java/lang/String" yJ0_length_8abf5 cJ0_length_8abf5 1 (some .int) 0 := ⟨⟨hl, tbm (by decide +kernel) rfl, tbm (by decide +kernel) rfl, tbm (by decide +kernel) rfl, tbm (by decide +kernel) rfl⟩, rfl, by decide, by decide, by decide +kernel⟩
  exact k_tcall cx iv h5 (w_slength h5) (As := []) rfl rfl ⟨by omega, by omega⟩ hw hd h
theorem k_schar (cx : Cx p R s m args c Γ nL σ0 cc own) {i j idx : Nat} {k : Int32} (hl : Cond.methodLink own idx yJ0_charAt_5068e ∈ TBL) (hi : ixS k i = some j) (hfr : 4 ≤ R.frames ∧ 120 ≤ R.locals) (hw : (st.map fun v => v.category).sum ≤ 8) (hd : decode cc pc = .ok (.invokevirtual idx, 3)) (h : Ok p l e R s m args below meth c Γ nL Q (pc + 3) L (.int ((strByt.getD i []).getD j 0) :: st) σ) : Ok p l e R s m args below meth c Γ nL Q pc L (.int k :: va_rf (some (gK Γ i)) :: st) σ := by
  have iv : IV own idx "java/lang/String" yJ0_charAt_5068e cJ0_charAt_5068e 2 (some .char) 1 := ⟨⟨hl, tbm (by decide +kernel) rfl, tbm (by decide +kernel) rfl, tbm (by decide +kernel) rfl, tbm (by decide +kernel) rfl⟩, rfl, by decide, by decide, by decide +kernel⟩
  exact k_tcall cx iv (ixS_b hi).1 (w_scharAt hi) (As := [.int k]) rfl rfl ⟨by omega, by omega⟩ hw hd h
end OKS

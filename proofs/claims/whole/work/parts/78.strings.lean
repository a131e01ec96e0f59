theorem tbm {w : Cond} (h1 : w ∈ lw_tbl) (h2 : goodWord w = true) : w ∈ TBL := List.mem_filter.mpr ⟨h1, h2⟩
section OKT
variable {p : Program} {l : Launch} {e : Env} {R : Room} {s : State} {m : MethodId} {args : Array Value} {below : List Frame} {meth : Method} {c : Code} {Q : State → Prop} {Γ : GE} {σ0 σ : St} {nL pc : Nat} {cc : ByteArray} {own : String} {L L' : List (Nat × Value)} {st : List Value} {H : Heap}
theorem st_S (cx : Cx p R s m args c Γ nL σ0 cc own) (hR : RepH Γ σ H) : vk_S 5 strLen strByt (gK Γ) (gV Γ) (fun q => gB Γ ≤ q) s H := vk_S.kept cx.2.2.2.2.2.1.2.2.2.2.2.2.1.1 (fun a _ h => hR.2.2.1 a (Nat.not_le.mp h))
theorem k_tget (cx : Cx p R s m args c Γ nL σ0 cc own) {a idx : Nat} {n d : String} {v : Value} (hE : ∀ H, RepH Γ σ H → va_OF "java/lang/String" n d v a (fun q => gB Γ ≤ q) s H) (hl : Cond.fieldLink own idx "java/lang/String" n d ∈ TBL) (hd : decode cc pc = .ok (.getfield idx, 3)) (h : Ok p l e R s m args below meth c Γ nL Q (pc + 3) L (v :: st) σ) : Ok p l e R s m args below meth c Γ nL Q pc L (va_rf (some a) :: st) σ := by
  intro H locs ls hR hL hls
  obtain ⟨cf, k, fi, f, cell, h1, h2, h3, h4, h5, h6⟩ := hE H hR
  exact W.getf cx.1 cx.2.1 cx.2.2.2.1 (cx.2.2.2.2.1 _ hl) h1 h2 h3 h4 (v := v) h5 rfl rfl hd (h H locs ls hR hL hls)
theorem k_zget (cx : Cx p R s m args c Γ nL σ0 cc own) {idx : Nat} {C n d : String} {v : Value} (hZ : va_Z C n d v (fun q => gB Γ ≤ q) s (gH Γ)) (hl : Cond.fieldLink own idx C n d ∈ TBL) (hd : decode cc pc = .ok (.getstatic idx, 3)) (h : Ok p l e R s m args below meth c Γ nL Q (pc + 3) L (v :: st) σ) : Ok p l e R s m args below meth c Γ nL Q pc L st σ := by
  intro H locs ls hR hL hls
  obtain ⟨cf, kf, fi, f, a, cell, h1, h2, h3, h4, h5, h6, h7, h8⟩ := hZ
  refine W.gets cx.1 cx.2.1 cx.2.2.2.1 (cx.2.2.2.2.1 _ hl) h1 h2 h3 h4 (v := v) (by rw [hR.2.2.1 a (Nat.not_le.mp h8)]; exact h5) (fun e => by rw [e] at h6; cases h6) h7 rfl hd (h H locs ls hR hL hls)
theorem k_talen (cx : Cx p R s m args c Γ nL σ0 cc own) {i : Nat} (hi : i < 5) (hd : decode cc pc = .ok (.arraylength, 1)) (h : Ok p l e R s m args below meth c Γ nL Q (pc + 1) L (.int (nI (strLen.getD i 0)) :: st) σ) : Ok p l e R s m args below meth c Γ nL Q pc L (va_rf (some (gV Γ i)) :: st) σ := by
  intro H locs ls hR hL hls
  obtain ⟨cell, h1, h2, h3, h4, h5, h6, h7⟩ := ((st_S cx hR).1 i hi).2.2.2
  exact W.alen (n := nI (strLen.getD i 0)) cx.1 cx.2.1 h1 h2 h5 rfl rfl hd (h H locs ls hR hL hls)
theorem k_tbald (cx : Cx p R s m args c Γ nL σ0 cc own) {i j : Nat} {k : Int32} (hi : ixS k i = some j) (hd : decode cc pc = .ok (.baload, 1)) (h : Ok p l e R s m args below meth c Γ nL Q (pc + 1) L (.int ((strByt.getD i []).getD j 0) :: st) σ) : Ok p l e R s m args below meth c Γ nL Q pc L (.int k :: va_rf (some (gV Γ i)) :: st) σ := by
  intro H locs ls hR hL hls
  by_cases h5 : i < 5
  · rw [ixS, if_pos h5] at hi
    obtain ⟨hin, rfl⟩ := ix_some hi
    obtain ⟨cell, h1, h2, h3, h4, hz, h6, h7⟩ := ((st_S cx hR).1 i h5).2.2.2
    exact W.bald (v := .int ((strByt.getD i []).getD k.toNatClampNeg 0)) cx.1 cx.2.1 h1 h2 h3 (fun q => hin (q.imp (fun x => x) (fun x => Nat.le_trans h4 x))) (h6 _ (Nat.not_le.mp fun q => hin (Or.inr q))) rfl rfl hd (h H locs ls hR hL hls)
  · rw [ixS, if_neg h5] at hi; cases hi
theorem k_tret (cx : Cx p R s m args c Γ nL σ0 cc own) {ty : FieldType} (hr : meth.sig.returnType = some ty) (hlk : meth.locks = false) {v : Int32} {rv : Option Value} {σ1 : St} (hz : narrow ty (.int v) = .int v) (hv : rv = some (.int v)) (hσ : σ1 = σ) (hd : decode cc pc = .ok (.ireturn, 1)) : Ok p l e R s m args below meth c Γ nL (MQ below (Qr Γ rv σ1) args s R.cells R.slots (fun q => gB Γ ≤ q)) pc L [.int v] σ := by
  subst hv; subst hσ
  exact fun H locs ls hR hL hls => W.zret cx.1 cx.2.1 hr hz (fun t ht _ => ⟨rfl, by rw [ht]; exact hR⟩) hL hd hlk
theorem k_tshr (cx : Cx p R s m args c Γ nL σ0 cc own) {x y : Int32} (hd : decode cc pc = .ok (.ishr, 1)) (h : Ok p l e R s m args below meth c Γ nL Q (pc + 1) L (.int (x >>> (y &&& 31)) :: st) σ) : Ok p l e R s m args below meth c Γ nL Q pc L (.int y :: .int x :: st) σ :=
  fun H locs ls hR hL hls => lv_ishr cx.1 cx.2.1 hd (h H locs ls hR hL hls)
theorem k_ti2c (cx : Cx p R s m args c Γ nL σ0 cc own) {x v : Int32} (hd : decode cc pc = .ok (.i2c, 1)) (hv : (x.toUInt32 % 65536).toInt32 = v) (h : Ok p l e R s m args below meth c Γ nL Q (pc + 1) L (.int v :: st) σ) : Ok p l e R s m args below meth c Γ nL Q pc L (.int x :: st) σ :=
  fun H locs ls hR hL hls => lv_i2c cx.1 cx.2.1 hd hv (h H locs ls hR hL hls)
theorem k_tpop (cx : Cx p R s m args c Γ nL σ0 cc own) {v : Value} (hd : decode cc pc = .ok (.pop, 1)) (hv : v.category = 1) (h : Ok p l e R s m args below meth c Γ nL Q (pc + 1) L st σ) : Ok p l e R s m args below meth c Γ nL Q pc L (v :: st) σ :=
  fun H locs ls hR hL hls => lv_pop cx.1 cx.2.1 hd hv (h H locs ls hR hL hls)
/-- a call on a string -/
theorem k_tcall (cx : Cx p R s m args c Γ nL σ0 cc own) {idx i : Nat} {y : MethodName} {b : ByteArray} {mL n fr lo : Nat} {ret : Option FieldType} {As st0 : List Value} {rv : Option Value} {σ1 : St} (iv : IV own idx "java/lang/String" y b mL ret n) (hi : i < 5) (ct : Ct Γ y b mL ret fr lo (va_rf (some (gK Γ i)) :: As) σ rv σ1) (hst : st0 = As.reverse ++ va_rf (some (gK Γ i)) :: st) (hn : As.length = n) (hfr : fr + 1 ≤ R.frames ∧ 8 + (mL + 11) + lo ≤ R.locals) (hw : (st.map fun v => v.category).sum ≤ 8) (hd : decode cc pc = .ok (.invokevirtual idx, 3)) (h : Ok p l e R s m args below meth c Γ nL Q (pc + 3) L (rv.toList ++ st) σ1) : Ok p l e R s m args below meth c Γ nL Q pc L st0 σ := by
  subst hst
  obtain ⟨⟨w1, w2, w3, w4, w5⟩, d1, d2, d3, d4⟩ := iv
  have hts := cx.2.2.2.2.1
  refine k_run (a := (va_rf (some (gK Γ i)) :: As).toArray) cx (fun H locs ls hR hls m1 m2 => ?_) h
  obtain ⟨cell, q1, q2, q3, -⟩ := ((st_S cx hR).1 i hi).1
  have hrc := cx.2.2.2.2.2.2.2
  have h8 := hR.2.2.2.2.2.2.2
  exact va_runV (As := As) (rest := st) ⟨cx.1, cx.2.1, cx.2.2.1, cx.2.2.2.1, hts⟩ (ct l) ⟨callB_of n hts (gi_code w5) rfl rfl rfl (by rw [d1]; exact hts _ w4) (hts _ w1) ⟨d2, d3, d4⟩ hfr, hts _ w2, hts _ w3⟩ ⟨blindP, ⟨cell, q1, q2, q3⟩, rp_pre cx hR⟩ rfl hn hls.1 rfl (lv_room hw) hd ⟨by omega, by omega⟩
end OKT
theorem fl_J0_9 : Cond.fieldLink RJ0 9 "java/lang/String" "value" "[B" ∈ TBL := tbm (by decide +kernel) rfl
theorem fl_J0_15 : Cond.fieldLink RJ0 15 "java/lang/String" "coder" "B" ∈ TBL := tbm (by decide +kernel) rfl
theorem fl_J0_38 : Cond.fieldLink RJ0 38 "java/lang/String" "COMPACT_STRINGS" "Z" ∈ TBL := tbm (by decide +kernel) rfl
theorem fl_J0_1053 : Cond.fieldLink RJ0 1053 "jdk/internal/util/Preconditions" "SIOOBE_FORMATTER" "Ljava/util/function/BiFunction;" ∈ TBL := tbm (by decide +kernel) rfl
theorem iv_J0_335 : IV RJ0 335 "java/lang/String" yJ0_coder_7d493 cJ0_coder_7d493 1 (some .byte) 0 := ⟨⟨tbm (by decide +kernel) rfl, tbm (by decide +kernel) rfl, tbm (by decide +kernel) rfl, tbm (by decide +kernel) rfl, tbm (by decide +kernel) rfl⟩, rfl, by decide, by decide, by decide +kernel⟩
theorem iv_J0_492 : IV RJ0 492 "java/lang/String" yJ0_isLatin1_aae02 cJ0_isLatin1_aae02 1 (some .boolean) 0 := ⟨⟨tbm (by decide +kernel) rfl, tbm (by decide +kernel) rfl, tbm (by decide +kernel) rfl, tbm (by decide +kernel) rfl, tbm (by decide +kernel) rfl⟩, rfl, by decide, by decide, by decide +kernel⟩
theorem is_J0_495 : IS RJ0 495 yJ1_charAt_3b067 cJ1_charAt_3b067 2 (some .char) 2 := ⟨⟨tbm (by decide +kernel) rfl, tbm (by decide +kernel) rfl, tbm (by decide +kernel) rfl, tbm (by decide +kernel) rfl⟩, by decide, by decide, by decide +kernel⟩
theorem is_J1_9 : IS RJ1 9 yJ0_checkIndex_df160 cJ0_checkIndex_df160 2 none 2 := ⟨⟨tbm (by decide +kernel) rfl, tbm (by decide +kernel) rfl, tbm (by decide +kernel) rfl, tbm (by decide +kernel) rfl⟩, by decide, by decide, by decide +kernel⟩
theorem is_J0_1059 : IS RJ0 1059 yJ3_checkIndex_8e157 cJ3_checkIndex_8e157 3 (some .int) 3 := ⟨⟨tbm (by decide +kernel) rfl, tbm (by decide +kernel) rfl, tbm (by decide +kernel) rfl, tbm (by decide +kernel) rfl⟩, by decide, by decide, by decide +kernel⟩

theorem w_coder {Γ : GE} {σ : St} {i : Nat} (hi : i < 5) : Ct Γ yJ0_coder_7d493 cJ0_coder_7d493 1 (some .byte) 0 0 [va_rf (some (gK Γ i))] σ (some (.int 0)) σ := by
  refine ct_intro (own := RJ0) (L0 := [(0, va_rf (some (gK Γ i)))]) (by decide +kernel) rfl (by simp [lg_sl, cat_rf, cat_i, cat_j]) (by simp [lv_args, cat_rf, cat_i, cat_j]) ?_
  intro p l e s m args below meth c hr hlk hin cx
  refine k_zget cx cx.2.2.2.2.2.1.2.2.2.2.2.2.2.1 fl_J0_38 dJ0_coder_7d493_0 ?_
  refine k_if_eq cx 13 dJ0_coder_7d493_3 (by decide) (fun q => absurd q (by decide)) (fun _ => ?_)
  refine k_aload_n cx 0 dJ0_coder_7d493_6 rfl rfl ?_
  refine k_tget cx (fun H hR => ((st_S cx hR).1 i hi).2.1) fl_J0_15 dJ0_coder_7d493_7 ?_
  refine k_goto cx 14 dJ0_coder_7d493_10 (by decide) ?_
  exact k_tret cx hr hlk rfl rfl rfl dJ0_coder_7d493_14
theorem w_isLatin1 {Γ : GE} {σ : St} {i : Nat} (hi : i < 5) : Ct Γ yJ0_isLatin1_aae02 cJ0_isLatin1_aae02 1 (some .boolean) 0 0 [va_rf (some (gK Γ i))] σ (some (.int 1)) σ := by
  refine ct_intro (own := RJ0) (L0 := [(0, va_rf (some (gK Γ i)))]) (by decide +kernel) rfl (by simp [lg_sl, cat_rf, cat_i, cat_j]) (by simp [lv_args, cat_rf, cat_i, cat_j]) ?_
  intro p l e s m args below meth c hr hlk hin cx
  refine k_zget cx cx.2.2.2.2.2.1.2.2.2.2.2.2.2.1 fl_J0_38 dJ0_isLatin1_aae02_0 ?_
  refine k_if_eq cx 17 dJ0_isLatin1_aae02_3 (by decide) (fun q => absurd q (by decide)) (fun _ => ?_)
  refine k_aload_n cx 0 dJ0_isLatin1_aae02_6 rfl rfl ?_
  refine k_tget cx (fun H hR => ((st_S cx hR).1 i hi).2.1) fl_J0_15 dJ0_isLatin1_aae02_7 ?_
  refine k_if_ne cx 17 dJ0_isLatin1_aae02_10 (by decide) (fun q => absurd rfl q) (fun _ => ?_)
  refine k_iconst cx 1 dJ0_isLatin1_aae02_13 (by decide) ?_
  refine k_goto cx 18 dJ0_isLatin1_aae02_14 (by decide) ?_
  exact k_tret cx hr hlk rfl rfl rfl dJ0_isLatin1_aae02_18
theorem w_pcheck {Γ : GE} {σ : St} {k n : Int32} {x : Option Nat} (h1 : ¬ k < 0) (h2 : k < n) : Ct Γ yJ3_checkIndex_8e157 cJ3_checkIndex_8e157 3 (some .int) 0 0 [.int k, .int n, va_rf x] σ (some (.int k)) σ := by
  refine ct_intro (own := RJ3) (L0 := [(0, .int k), (1, .int n), (2, va_rf x)]) (by decide +kernel) rfl (by simp [lg_sl, cat_rf, cat_i, cat_j]) (by simp [lv_args, cat_rf, cat_i, cat_j]) ?_
  intro p l e s m args below meth c hr hlk hin cx
  refine k_iload_n cx 0 dJ3_checkIndex_8e157_0 rfl rfl ?_
  refine k_if_lt cx 9 dJ3_checkIndex_8e157_1 (by decide) (fun q => absurd q h1) (fun _ => ?_)
  refine k_iload_n cx 0 dJ3_checkIndex_8e157_4 rfl rfl ?_
  refine k_iload_n cx 1 dJ3_checkIndex_8e157_5 rfl rfl ?_
  refine k_icmp_lt cx 16 dJ3_checkIndex_8e157_6 (by decide) (fun _ => ?_) (fun q => absurd h2 q)
  refine k_iload_n cx 0 dJ3_checkIndex_8e157_16 rfl rfl ?_
  exact k_iret cx hr hlk rfl rfl dJ3_checkIndex_8e157_17
theorem w_scheck {Γ : GE} {σ : St} {k n : Int32} (h1 : ¬ k < 0) (h2 : k < n) : Ct Γ yJ0_checkIndex_df160 cJ0_checkIndex_df160 2 none 1 22 [.int k, .int n] σ none σ := by
  refine ct_intro (own := RJ0) (L0 := [(0, .int k), (1, .int n)]) (by decide +kernel) rfl (by simp [lg_sl, cat_rf, cat_i, cat_j]) (by simp [lv_args, cat_rf, cat_i, cat_j]) ?_
  intro p l e s m args below meth c hr hlk hin cx
  refine k_iload_n cx 0 dJ0_checkIndex_df160_0 rfl rfl ?_
  refine k_iload_n cx 1 dJ0_checkIndex_df160_1 rfl rfl ?_
  obtain ⟨v, hv, hZ⟩ := cx.2.2.2.2.2.1.2.2.2.2.2.2.2.2
  obtain ⟨x, rfl⟩ : ∃ x : Option Nat, v = va_rf x := by
    rcases hv with q | ⟨t, q⟩
    · exact ⟨none, q⟩
    · exact ⟨some t, q⟩
  refine k_zget cx hZ fl_J0_1053 dJ0_checkIndex_df160_2 ?_
  refine k_callS cx is_J0_1059 (w_pcheck h1 h2) (As := [.int k, .int n, va_rf x]) rfl rfl ⟨Nat.le_of_ble_eq_true rfl, Nat.le_of_ble_eq_true rfl⟩ (by simp [cat_rf, cat_i, cat_j]) dJ0_checkIndex_df160_5 ?_
  refine k_tpop cx dJ0_checkIndex_df160_8 rfl ?_
  exact k_vret cx hr hlk rfl rfl dJ0_checkIndex_df160_9
theorem by_lat : ∀ i, i < 5 → ∀ j, j < strLen.getD i 0 → (((((strByt.getD i []).getD j 0) &&& 255).toUInt32 % 65536).toInt32 = (strByt.getD i []).getD j 0) ∧ narrow .char (.int ((strByt.getD i []).getD j 0)) = .int ((strByt.getD i []).getD j 0) := by decide +kernel
theorem ixS_b {k : Int32} {i j : Nat} (h : ixS k i = some j) : i < 5 ∧ j < strLen.getD i 0 ∧ ¬ k < 0 ∧ k < nI (strLen.getD i 0) := by
  by_cases h5 : i < 5
  · rw [ixS, if_pos h5] at h
    obtain ⟨hin, rfl⟩ := ix_some h
    have hs : strLen.getD i 0 ≤ 7 := (by decide : ∀ i, i < 5 → strLen.getD i 0 ≤ 7) i h5
    have hj : k.toNatClampNeg < strLen.getD i 0 := Nat.not_le.mp fun q => hin (Or.inr q)
    have hk : ¬ k < 0 := fun q => hin (Or.inl q)
    refine ⟨h5, hj, hk, ?_⟩
    obtain ⟨z, rfl, z1, z2⟩ := zI_ex k
    have hz : 0 ≤ z := by
      have q : ¬ zI z < zI 0 := hk
      rw [zI_lt z1 z2 (by omega) (by omega)] at q
      omega
    have ht : (zI z).toNatClampNeg = z.toNat := by
      simp only [Int32.toNatClampNeg, zI_int z1 z2]
    rw [ht] at hj
    rw [nI_z, zI_lt z1 z2 (by omega) (by omega)]
    omega
  · rw [ixS, if_neg h5] at h; cases h
theorem w_lcharAt {Γ : GE} {σ : St} {k : Int32} {i j : Nat} (h : ixS k i = some j) : Ct Γ yJ1_charAt_3b067 cJ1_charAt_3b067 2 (some .char) 2 43 [va_rf (some (gV Γ i)), .int k] σ (some (.int ((strByt.getD i []).getD j 0))) σ := by
  obtain ⟨h5, hj, h1, h2⟩ := ixS_b h
  refine ct_intro (own := RJ1) (L0 := [(0, va_rf (some (gV Γ i))), (1, .int k)]) (by decide +kernel) rfl (by simp [lg_sl, cat_rf, cat_i, cat_j]) (by simp [lv_args, cat_rf, cat_i, cat_j]) ?_
  intro p l e s m args below meth c hr hlk hin cx
  refine k_iload_n cx 1 dJ1_charAt_3b067_0 rfl rfl ?_
  refine k_aload_n cx 0 dJ1_charAt_3b067_1 rfl rfl ?_
  refine k_talen cx h5 dJ1_charAt_3b067_2 ?_
  refine k_callS cx is_J1_9 (w_scheck h1 h2) (As := [.int k, .int (nI (strLen.getD i 0))]) rfl rfl ⟨Nat.le_of_ble_eq_true rfl, Nat.le_of_ble_eq_true rfl⟩ (by simp [cat_rf, cat_i, cat_j]) dJ1_charAt_3b067_3 ?_
  refine k_aload_n cx 0 dJ1_charAt_3b067_6 rfl rfl ?_
  refine k_iload_n cx 1 dJ1_charAt_3b067_7 rfl rfl ?_
  refine k_tbald cx h dJ1_charAt_3b067_8 ?_
  refine k_sipush cx 255 dJ1_charAt_3b067_9 (by decide) ?_
  refine k_iand cx dJ1_charAt_3b067_12 ?_
  refine k_ti2c cx dJ1_charAt_3b067_13 (by_lat i h5 j hj).1 ?_
  exact k_tret cx hr hlk (by_lat i h5 j hj).2 rfl rfl dJ1_charAt_3b067_14
theorem w_scharAt {Γ : GE} {σ : St} {k : Int32} {i j : Nat} (h : ixS k i = some j) : Ct Γ yJ0_charAt_5068e cJ0_charAt_5068e 2 (some .char) 3 64 [va_rf (some (gK Γ i)), .int k] σ (some (.int ((strByt.getD i []).getD j 0))) σ := by
  obtain ⟨h5, hj, h1, h2⟩ := ixS_b h
  refine ct_intro (own := RJ0) (L0 := [(0, va_rf (some (gK Γ i))), (1, .int k)]) (by decide +kernel) rfl (by simp [lg_sl, cat_rf, cat_i, cat_j]) (by simp [lv_args, cat_rf, cat_i, cat_j]) ?_
  intro p l e s m args below meth c hr hlk hin cx
  refine k_aload_n cx 0 dJ0_charAt_5068e_0 rfl rfl ?_
  refine k_tcall cx iv_J0_492 h5 (w_isLatin1 h5) (As := []) rfl rfl ⟨Nat.le_of_ble_eq_true rfl, Nat.le_of_ble_eq_true rfl⟩ (by simp [cat_rf, cat_i, cat_j]) dJ0_charAt_5068e_1 ?_
  refine k_if_eq cx 16 dJ0_charAt_5068e_4 (by decide) (fun q => absurd q (by decide)) (fun _ => ?_)
  refine k_aload_n cx 0 dJ0_charAt_5068e_7 rfl rfl ?_
  refine k_tget cx (v := va_rf (some (gV Γ i))) (fun H hR => ((st_S cx hR).1 i h5).2.2.1) fl_J0_9 dJ0_charAt_5068e_8 ?_
  refine k_iload_n cx 1 dJ0_charAt_5068e_11 rfl rfl ?_
  refine k_callS cx is_J0_495 (w_lcharAt h) (As := [va_rf (some (gV Γ i)), .int k]) rfl rfl ⟨Nat.le_of_ble_eq_true rfl, Nat.le_of_ble_eq_true rfl⟩ (by simp [cat_rf, cat_i, cat_j]) dJ0_charAt_5068e_12 ?_
  exact k_tret cx hr hlk (by_lat i h5 j hj).2 rfl rfl dJ0_charAt_5068e_15
theorem w_slength {Γ : GE} {σ : St} {i : Nat} (hi : i < 5) : Ct Γ yJ0_length_8abf5 cJ0_length_8abf5 1 (some .int) 1 20 [va_rf (some (gK Γ i))] σ (some (.int (nI (strLen.getD i 0)))) σ := by
  refine ct_intro (own := RJ0) (L0 := [(0, va_rf (some (gK Γ i)))]) (by decide +kernel) rfl (by simp [lg_sl, cat_rf, cat_i, cat_j]) (by simp [lv_args, cat_rf, cat_i, cat_j]) ?_
  intro p l e s m args below meth c hr hlk hin cx
  refine k_aload_n cx 0 dJ0_length_8abf5_0 rfl rfl ?_
  refine k_tget cx (v := va_rf (some (gV Γ i))) (fun H hR => ((st_S cx hR).1 i hi).2.2.1) fl_J0_9 dJ0_length_8abf5_1 ?_
  refine k_talen cx hi dJ0_length_8abf5_4 ?_
  refine k_aload_n cx 0 dJ0_length_8abf5_5 rfl rfl ?_
  refine k_tcall cx iv_J0_335 hi (w_coder hi) (As := []) rfl rfl ⟨Nat.le_of_ble_eq_true rfl, Nat.le_of_ble_eq_true rfl⟩ (by simp [cat_rf, cat_i, cat_j]) dJ0_length_8abf5_6 ?_
  refine k_tshr cx dJ0_length_8abf5_9 ?_
  exact k_iret cx hr hlk (by rw [(by decide +kernel : ∀ i, i < 5 → nI (strLen.getD i 0) >>> ((0 : Int32) &&& 31) = nI (strLen.getD i 0)) i hi]) rfl dJ0_length_8abf5_10
section OKS
variable {p : Program} {l : Launch} {e : Env} {R : Room} {s : State} {m : MethodId} {args : Array Value} {below : List Frame} {meth : Method} {c : Code} {Q : State → Prop} {Γ : GE} {σ0 σ : St} {nL pc : Nat} {cc : ByteArray} {own : String} {L L' : List (Nat × Value)} {st : List Value}
theorem k_slen2 (cx : Cx p R s m args c Γ nL σ0 cc own) {i j idx : Nat} (hl : Cond.methodLink own idx yJ0_length_8abf5 ∈ TBL) (hi : kS i = some j) (hfr : 2 ≤ R.frames ∧ 60 ≤ R.locals) (hw : (st.map fun v => v.category).sum ≤ 8) (hd : decode cc pc = .ok (.invokevirtual idx, 3)) (h : Ok p l e R s m args below meth c Γ nL Q (pc + 3) L (.int (nI (strLen.getD i 0)) :: st) σ) : Ok p l e R s m args below meth c Γ nL Q pc L (va_rf (some (gK Γ i)) :: st) σ := by
  have h5 : i < 5 := by
    by_cases q : i < 5
    · exact q
    · rw [kS, if_neg q] at hi; cases hi
  have iv : IV own idx "java/lang/String" yJ0_length_8abf5 cJ0_length_8abf5 1 (some .int) 0 := ⟨⟨hl, tbm (by decide +kernel) rfl, tbm (by decide +kernel) rfl, tbm (by decide +kernel) rfl, tbm (by decide +kernel) rfl⟩, rfl, by decide, by decide, by decide +kernel⟩
  exact k_tcall cx iv h5 (w_slength h5) (As := []) rfl rfl ⟨by omega, by omega⟩ hw hd h
theorem k_schar2 (cx : Cx p R s m args c Γ nL σ0 cc own) {i j idx : Nat} {k : Int32} (hl : Cond.methodLink own idx yJ0_charAt_5068e ∈ TBL) (hi : ixS k i = some j) (hfr : 4 ≤ R.frames ∧ 120 ≤ R.locals) (hw : (st.map fun v => v.category).sum ≤ 8) (hd : decode cc pc = .ok (.invokevirtual idx, 3)) (h : Ok p l e R s m args below meth c Γ nL Q (pc + 3) L (.int ((strByt.getD i []).getD j 0) :: st) σ) : Ok p l e R s m args below meth c Γ nL Q pc L (.int k :: va_rf (some (gK Γ i)) :: st) σ := by
  have iv : IV own idx "java/lang/String" yJ0_charAt_5068e cJ0_charAt_5068e 2 (some .char) 1 := ⟨⟨hl, tbm (by decide +kernel) rfl, tbm (by decide +kernel) rfl, tbm (by decide +kernel) rfl, tbm (by decide +kernel) rfl⟩, rfl, by decide, by decide, by decide +kernel⟩
  exact k_tcall cx iv (ixS_b hi).1 (w_scharAt hi) (As := [.int k]) rfl rfl ⟨by omega, by omega⟩ hw hd h
end OKS

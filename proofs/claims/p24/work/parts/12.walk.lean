set_option maxRecDepth 100000 in
set_option maxHeartbeats 4000000 in
theorem w_X10_fault {Γ : GE} {σ : St} {t : Nat} {p1 : Int32} {ρ : Int32} (hk : hpK σ t = 10) (h : f_X10_fault σ t p1 = some ρ) : Ct Γ yX10_fault cX10_fault 2 (some .int) 7 188 [va_rf (some t), .int p1] σ (some (.int ρ)) σ := by
  refine ct_intro (own := RX10) (L0 := [(0, va_rf (some t)), (1, .int p1)]) (by decide +kernel) rfl (by simp [lg_sl, cat_rf, cat_i, cat_j]) (by simp [lv_args, cat_rf, cat_i, cat_j]) ?_
  intro p l e s m args below meth c hr hlk hin cx
  have hk0 := dn_eq hk
  unfold f_X10_fault at h
  refine k_iload_n cx 1 dX10_fault_0 rfl rfl ?_
  refine k_if_eq cx 14 dX10_fault_1 (by decide) (fun c1 => ?_) (fun c1 => ?_)
  · have h := ite_t h c1
    refine k_aload_n cx 0 dX10_fault_14 rfl rfl ?_
    refine q_getR cx fl_X10_12 hk0 dX10_fault_15 ?_
    obtain ⟨a2, g3, h⟩ := bind_ok h
    obtain ⟨q4, g5, h⟩ := bind_ok h
    refine k_callV cx iv_X10_52 (ci := 8) rfl (by decide) (w_X8_lineFault (dn_some g3).2 g5) g3 (As := []) rfl rfl ⟨Nat.le_of_ble_eq_true rfl, Nat.le_of_ble_eq_true rfl⟩ (by simp [cat_rf, cat_i, cat_j]) dX10_fault_18 ?_
    have h := Option.some.inj h
    exact k_iret cx hr hlk (by rw [← h]) rfl dX10_fault_21
  · have h := ite_f h c1
    refine k_aload_n cx 0 dX10_fault_4 rfl rfl ?_
    refine q_getR cx fl_X10_12 hk0 dX10_fault_5 ?_
    obtain ⟨a6, g7, h⟩ := bind_ok h
    obtain ⟨q8, g9, h⟩ := bind_ok h
    refine k_callV cx iv_X10_48 (ci := 8) rfl (by decide) (w_X8_shapeFault (dn_some g7).2 g9) g7 (As := []) rfl rfl ⟨Nat.le_of_ble_eq_true rfl, Nat.le_of_ble_eq_true rfl⟩ (by simp [cat_rf, cat_i, cat_j]) dX10_fault_8 ?_
    refine k_goto cx 21 dX10_fault_11 (by decide) ?_
    have h := Option.some.inj h
    exact k_iret cx hr hlk (by rw [← h]) rfl dX10_fault_21
set_option maxRecDepth 100000 in
set_option maxHeartbeats 4000000 in
theorem w_X10_layOut {Γ : GE} {σ : St} {t : Nat} {ρ : St} (hk : hpK σ t = 10) (h : f_X10_layOut σ t = some ρ) : Ct Γ yX10_layOut cX10_layOut 1 none 6 149 [va_rf (some t)] σ none ρ := by
  refine ct_intro (own := RX10) (L0 := [(0, va_rf (some t))]) (by decide +kernel) rfl (by simp [lg_sl, cat_rf, cat_i, cat_j]) (by simp [lv_args, cat_rf, cat_i, cat_j]) ?_
  intro p l e s m args below meth c hr hlk hin cx
  have hk0 := dn_eq hk
  unfold f_X10_layOut at h
  refine k_aload_n cx 0 dX10_layOut_0 rfl rfl ?_
  refine q_getR cx fl_X10_33 hk0 dX10_layOut_1 ?_
  refine k_aload_n cx 0 dX10_layOut_4 rfl rfl ?_
  refine q_getR cx fl_X10_19 hk0 dX10_layOut_5 ?_
  refine k_aload_n cx 0 dX10_layOut_8 rfl rfl ?_
  refine q_getR cx fl_X10_19 hk0 dX10_layOut_9 ?_
  refine k_iconst cx 0 dX10_layOut_12 (by decide) ?_
  obtain ⟨a1, g2, h⟩ := bind_ok h
  obtain ⟨q3, g4, h⟩ := bind_ok h
  refine k_callV cx iv_X10_155 (ci := 5) rfl (by decide) (w_X5_setting (dn_some g2).2 g4) g2 (As := [.int 0]) rfl rfl ⟨Nat.le_of_ble_eq_true rfl, Nat.le_of_ble_eq_true rfl⟩ (by simp [cat_rf, cat_i, cat_j]) dX10_layOut_13 ?_
  obtain ⟨a5, g6, h⟩ := bind_ok h
  obtain ⟨q7, g8, h⟩ := bind_ok h
  refine k_callV cx iv_X10_237 (ci := 1) rfl (by decide) (w_X1_breakLines (dn_some g6).2 g8) g6 (As := [va_rf (hpR σ 321 t), .int q3]) rfl rfl ⟨Nat.le_of_ble_eq_true rfl, Nat.le_of_ble_eq_true rfl⟩ (by simp [cat_rf, cat_i, cat_j]) dX10_layOut_16 ?_
  refine k_aload_n cx 0 dX10_layOut_19 rfl rfl ?_
  obtain ⟨a9, g10, h⟩ := bind_ok h
  refine q_getR cx fl_X10_33 g10 dX10_layOut_20 ?_
  refine k_aload_n cx 0 dX10_layOut_23 rfl rfl ?_
  refine q_getR cx fl_X10_19 g10 dX10_layOut_24 ?_
  refine k_iconst cx 1 dX10_layOut_27 (by decide) ?_
  obtain ⟨a11, g12, h⟩ := bind_ok h
  obtain ⟨q13, g14, h⟩ := bind_ok h
  refine k_callV cx iv_X10_155 (ci := 5) rfl (by decide) (w_X5_setting (dn_some g12).2 g14) g12 (As := [.int 1]) rfl rfl ⟨Nat.le_of_ble_eq_true rfl, Nat.le_of_ble_eq_true rfl⟩ (by simp [cat_rf, cat_i, cat_j]) dX10_layOut_28 ?_
  refine k_aload_n cx 0 dX10_layOut_31 rfl rfl ?_
  refine q_getR cx fl_X10_19 g10 dX10_layOut_32 ?_
  refine k_iconst cx 4 dX10_layOut_35 (by decide) ?_
  obtain ⟨q15, g16, h⟩ := bind_ok h
  refine k_callV cx iv_X10_155 (ci := 5) rfl (by decide) (w_X5_setting (dn_some g12).2 g16) g12 (As := [.int 4]) rfl rfl ⟨Nat.le_of_ble_eq_true rfl, Nat.le_of_ble_eq_true rfl⟩ (by simp [cat_rf, cat_i, cat_j]) dX10_layOut_36 ?_
  obtain ⟨a17, g18, h⟩ := bind_ok h
  obtain ⟨q19, g20, h⟩ := bind_ok h
  refine k_callV cx iv_X10_241 (ci := 1) rfl (by decide) (w_X1_putOnPages (dn_some g18).2 g20) g18 (As := [.int q13, .int q15]) rfl rfl ⟨Nat.le_of_ble_eq_true rfl, Nat.le_of_ble_eq_true rfl⟩ (by simp [cat_rf, cat_i, cat_j]) dX10_layOut_39 ?_
  have h := Option.some.inj h
  exact k_vret cx hr hlk rfl (by rw [← h]) dX10_layOut_42
set_option maxRecDepth 100000 in
set_option maxHeartbeats 4000000 in
theorem w_X10_insert {Γ : GE} {σ : St} {t : Nat} {p1 : Int32} {ρ : Int32 × St} (hk : hpK σ t = 10) (h : f_X10_insert σ t p1 = some ρ) : Ct Γ yX10_insert cX10_insert 3 (some .int) 7 169 [va_rf (some t), .int p1] σ (some (.int ρ.1)) ρ.2 := by
  refine ct_intro (own := RX10) (L0 := [(0, va_rf (some t)), (1, .int p1)]) (by decide +kernel) rfl (by simp [lg_sl, cat_rf, cat_i, cat_j]) (by simp [lv_args, cat_rf, cat_i, cat_j]) ?_
  intro p l e s m args below meth c hr hlk hin cx
  have hk0 := dn_eq hk
  unfold f_X10_insert at h
  refine k_iload_n cx 1 dX10_insert_0 rfl rfl ?_
  refine k_if_lt cx 15 dX10_insert_1 (by decide) (fun c1 => ?_) (fun c1 => ?_)
  · have h := ite_t h c1
    refine k_bipush cx (-2) dX10_insert_15 (by decide) ?_
    have h := Option.some.inj h
    exact k_iret cx hr hlk (by rw [← h]) (by rw [← h]) dX10_insert_17
  · have h := ite_f h c1
    refine k_iload_n cx 1 dX10_insert_4 rfl rfl ?_
    refine k_aload_n cx 0 dX10_insert_5 rfl rfl ?_
    refine q_getR cx fl_X10_19 hk0 dX10_insert_6 ?_
    obtain ⟨a2, g3, h⟩ := bind_ok h
    refine q_getI cx fl_X10_55 g3 dX10_insert_9 ?_
    refine k_icmp_le cx 18 dX10_insert_12 (by decide) (fun c4 => ?_) (fun c4 => ?_)
    · have h := ite_t h c4
      refine k_aload_n cx 0 dX10_insert_18 rfl rfl ?_
      refine q_getR cx fl_X10_12 hk0 dX10_insert_19 ?_
      obtain ⟨a5, g6, h⟩ := bind_ok h
      obtain ⟨q7, g8, h⟩ := bind_ok h
      refine k_callV cx iv_X10_52 (ci := 8) rfl (by decide) (w_X8_lineFault (dn_some g6).2 g8) g6 (As := []) rfl rfl ⟨Nat.le_of_ble_eq_true rfl, Nat.le_of_ble_eq_true rfl⟩ (by simp [cat_rf, cat_i, cat_j]) dX10_insert_22 ?_
      refine k_istore_n cx (i := 2) [(2, .int q7), (0, va_rf (some t)), (1, .int p1)] dX10_insert_25 rfl (by decide) (by simp [cat_rf, cat_i, cat_j]) ?_
      refine k_iload_n cx 0 dX10_insert_26 rfl rfl ?_
      refine k_iconst cx (-1) dX10_insert_27 (by decide) ?_
      refine k_icmp_eq cx 37 dX10_insert_28 (by decide) (fun c9 => ?_) (fun c9 => ?_)
      · have h := ite_t h c9
        refine k_aload_n cx 1 dX10_insert_37 rfl rfl ?_
        refine q_getR cx fl_X10_19 hk0 dX10_insert_38 ?_
        refine q_getI cx fl_X10_55 g3 dX10_insert_41 ?_
        refine k_bipush cx 24 dX10_insert_44 (by decide) ?_
        refine k_icmp_lt cx 52 dX10_insert_46 (by decide) (fun c10 => ?_) (fun c10 => ?_)
        · have h := ite_t h c10
          refine k_aload_n cx 1 dX10_insert_52 rfl rfl ?_
          refine q_getR cx fl_X10_26 hk0 dX10_insert_53 ?_
          refine k_aload_n cx 1 dX10_insert_56 rfl rfl ?_
          refine q_getR cx fl_X10_19 hk0 dX10_insert_57 ?_
          obtain ⟨a11, g12, h⟩ := bind_ok h
          obtain ⟨q13, g14, h⟩ := bind_ok h
          refine k_callV cx iv_X10_58 (ci := 0) rfl (by decide) (w_X0_keepState (dn_some g12).2 g14) g12 (As := [va_rf (hpR σ 321 t)]) rfl rfl ⟨Nat.le_of_ble_eq_true rfl, Nat.le_of_ble_eq_true rfl⟩ (by simp [cat_rf, cat_i, cat_j]) dX10_insert_60 ?_
          refine k_aload_n cx 1 dX10_insert_63 rfl rfl ?_
          obtain ⟨a15, g16, h⟩ := bind_ok h
          refine q_getR cx fl_X10_19 g16 dX10_insert_64 ?_
          refine k_iload_n cx 2 dX10_insert_67 rfl rfl ?_
          refine k_aload_n cx 1 dX10_insert_68 rfl rfl ?_
          refine q_getR cx fl_X10_12 g16 dX10_insert_69 ?_
          obtain ⟨a17, g18, h⟩ := bind_ok h
          obtain ⟨q19, g20, h⟩ := bind_ok h
          refine k_callV cx iv_X10_62 (ci := 8) rfl (by decide) (w_X8_toLine (dn_some g18).2 g20) g18 (As := []) rfl rfl ⟨Nat.le_of_ble_eq_true rfl, Nat.le_of_ble_eq_true rfl⟩ (by simp [cat_rf, cat_i, cat_j]) dX10_insert_72 ?_
          obtain ⟨a21, g22, h⟩ := bind_ok h
          obtain ⟨q23, g24, h⟩ := bind_ok h
          refine k_callV cx iv_X10_66 (ci := 5) rfl (by decide) (w_X5_putIn (dn_some g22).2 g24) g22 (As := [.int p1, va_rf q19.1]) rfl rfl ⟨Nat.le_of_ble_eq_true rfl, Nat.le_of_ble_eq_true rfl⟩ (by simp [cat_rf, cat_i, cat_j]) dX10_insert_75 ?_
          refine k_aload_n cx 1 dX10_insert_78 rfl rfl ?_
          obtain ⟨a25, g26, h⟩ := bind_ok h
          obtain ⟨q27, g28, h⟩ := bind_ok h
          refine k_callV cx iv_X10_70 (ci := 10) rfl (by decide) (w_X10_layOut (dn_some g26).2 g28) g26 (As := []) rfl rfl ⟨Nat.le_of_ble_eq_true rfl, Nat.le_of_ble_eq_true rfl⟩ (by simp [cat_rf, cat_i, cat_j]) dX10_insert_79 ?_
          refine k_aload_n cx 1 dX10_insert_82 rfl rfl ?_
          obtain ⟨a29, g30, h⟩ := bind_ok h
          refine q_getR cx fl_X10_19 g30 dX10_insert_83 ?_
          obtain ⟨a31, g32, h⟩ := bind_ok h
          refine q_getI cx fl_X10_55 g32 dX10_insert_86 ?_
          have h := Option.some.inj h
          exact k_iret cx hr hlk (by rw [← h]) (by rw [← h]) dX10_insert_89
        · have h := ite_f h c10
          refine k_bipush cx (-4) dX10_insert_49 (by decide) ?_
          have h := Option.some.inj h
          exact k_iret cx hr hlk (by rw [← h]) (by rw [← h]) dX10_insert_51
      · have h := ite_f h c9
        refine k_sipush cx (-2000) dX10_insert_31 (by decide) ?_
        refine k_iload_n cx 0 dX10_insert_34 rfl rfl ?_
        refine k_isub cx dX10_insert_35 ?_
        have h := Option.some.inj h
        exact k_iret cx hr hlk (by rw [← h]) (by rw [← h]) dX10_insert_36
    · have h := ite_f h c4
      refine k_bipush cx (-2) dX10_insert_15 (by decide) ?_
      have h := Option.some.inj h
      exact k_iret cx hr hlk (by rw [← h]) (by rw [← h]) dX10_insert_17
set_option maxRecDepth 100000 in
set_option maxHeartbeats 4000000 in
theorem w_X10_replace {Γ : GE} {σ : St} {t : Nat} {p1 : Int32} {ρ : Int32 × St} (hk : hpK σ t = 10) (h : f_X10_replace σ t p1 = some ρ) : Ct Γ yX10_replace cX10_replace 4 (some .int) 7 169 [va_rf (some t), .int p1] σ (some (.int ρ.1)) ρ.2 := by
  refine ct_intro (own := RX10) (L0 := [(0, va_rf (some t)), (1, .int p1)]) (by decide +kernel) rfl (by simp [lg_sl, cat_rf, cat_i, cat_j]) (by simp [lv_args, cat_rf, cat_i, cat_j]) ?_
  intro p l e s m args below meth c hr hlk hin cx
  have hk0 := dn_eq hk
  unfold f_X10_replace at h
  refine k_aload_n cx 0 dX10_replace_0 rfl rfl ?_
  refine q_getR cx fl_X10_19 hk0 dX10_replace_1 ?_
  refine k_iload_n cx 1 dX10_replace_4 rfl rfl ?_
  obtain ⟨a1, g2, h⟩ := bind_ok h
  obtain ⟨q3, g4, h⟩ := bind_ok h
  refine k_callV cx iv_X10_73 (ci := 5) rfl (by decide) (w_X5_lineAt (dn_some g2).2 g4) g2 (As := [.int p1]) rfl rfl ⟨Nat.le_of_ble_eq_true rfl, Nat.le_of_ble_eq_true rfl⟩ (by simp [cat_rf, cat_i, cat_j]) dX10_replace_5 ?_
  refine k_astore_n cx (i := 2) [(2, va_rf q3), (0, va_rf (some t)), (1, .int p1)] dX10_replace_8 rfl (by decide) (by simp [cat_rf, cat_i, cat_j]) ?_
  refine k_aload_n cx 0 dX10_replace_9 rfl rfl ?_
  refine k_ifnonnull cx 16 dX10_replace_10 (by decide) (fun c5 => ?_) (fun a33 c5 => ?_)
  · have h := ite_t h c5
    refine k_bipush cx (-2) dX10_replace_13 (by decide) ?_
    have h := Option.some.inj h
    exact k_iret cx hr hlk (by rw [← h]) (by rw [← h]) dX10_replace_15
  · have h := ite_f h (ne_nn c5)
    refine k_aload_n cx 1 dX10_replace_16 rfl rfl ?_
    refine q_getR cx fl_X10_12 hk0 dX10_replace_17 ?_
    obtain ⟨a6, g7, h⟩ := bind_ok h
    obtain ⟨q8, g9, h⟩ := bind_ok h
    refine k_callV cx iv_X10_52 (ci := 8) rfl (by decide) (w_X8_lineFault (dn_some g7).2 g9) g7 (As := []) rfl rfl ⟨Nat.le_of_ble_eq_true rfl, Nat.le_of_ble_eq_true rfl⟩ (by simp [cat_rf, cat_i, cat_j]) dX10_replace_20 ?_
    refine k_istore_n cx (i := 3) [(3, .int q8), (2, va_rf q3), (0, va_rf (some t)), (1, .int p1)] dX10_replace_23 rfl (by decide) (by simp [cat_rf, cat_i, cat_j]) ?_
    refine k_iload_n cx 0 dX10_replace_24 rfl rfl ?_
    refine k_iconst cx (-1) dX10_replace_25 (by decide) ?_
    refine k_icmp_eq cx 35 dX10_replace_26 (by decide) (fun c10 => ?_) (fun c10 => ?_)
    · have h := ite_t h c10
      refine k_aload_n cx 2 dX10_replace_35 rfl rfl ?_
      refine q_getR cx fl_X10_26 hk0 dX10_replace_36 ?_
      refine k_aload_n cx 2 dX10_replace_39 rfl rfl ?_
      refine q_getR cx fl_X10_19 hk0 dX10_replace_40 ?_
      obtain ⟨a11, g12, h⟩ := bind_ok h
      obtain ⟨q13, g14, h⟩ := bind_ok h
      refine k_callV cx iv_X10_58 (ci := 0) rfl (by decide) (w_X0_keepState (dn_some g12).2 g14) g12 (As := [va_rf (hpR σ 321 t)]) rfl rfl ⟨Nat.le_of_ble_eq_true rfl, Nat.le_of_ble_eq_true rfl⟩ (by simp [cat_rf, cat_i, cat_j]) dX10_replace_43 ?_
      refine k_aload_n cx 2 dX10_replace_46 rfl rfl ?_
      obtain ⟨a15, g16, h⟩ := bind_ok h
      refine q_getR cx fl_X10_19 g16 dX10_replace_47 ?_
      refine k_iload_n cx 3 dX10_replace_50 rfl rfl ?_
      refine k_aload_n cx 2 dX10_replace_51 rfl rfl ?_
      refine q_getR cx fl_X10_12 g16 dX10_replace_52 ?_
      obtain ⟨a17, g18, h⟩ := bind_ok h
      obtain ⟨q19, g20, h⟩ := bind_ok h
      refine k_callV cx iv_X10_62 (ci := 8) rfl (by decide) (w_X8_toLine (dn_some g18).2 g20) g18 (As := []) rfl rfl ⟨Nat.le_of_ble_eq_true rfl, Nat.le_of_ble_eq_true rfl⟩ (by simp [cat_rf, cat_i, cat_j]) dX10_replace_55 ?_
      obtain ⟨a21, g22, h⟩ := bind_ok h
      obtain ⟨q23, g24, h⟩ := bind_ok h
      refine k_callV cx iv_X10_77 (ci := 5) rfl (by decide) (w_X5_exchange (dn_some g22).2 g24) g22 (As := [.int p1, va_rf q19.1]) rfl rfl ⟨Nat.le_of_ble_eq_true rfl, Nat.le_of_ble_eq_true rfl⟩ (by simp [cat_rf, cat_i, cat_j]) dX10_replace_58 ?_
      refine k_aload_n cx 2 dX10_replace_61 rfl rfl ?_
      obtain ⟨a25, g26, h⟩ := bind_ok h
      obtain ⟨q27, g28, h⟩ := bind_ok h
      refine k_callV cx iv_X10_70 (ci := 10) rfl (by decide) (w_X10_layOut (dn_some g26).2 g28) g26 (As := []) rfl rfl ⟨Nat.le_of_ble_eq_true rfl, Nat.le_of_ble_eq_true rfl⟩ (by simp [cat_rf, cat_i, cat_j]) dX10_replace_62 ?_
      refine k_aload_n cx 1 dX10_replace_65 rfl rfl ?_
      obtain ⟨a29, g30, h⟩ := bind_ok h
      refine q_getR cx fl_X10_80 g30 dX10_replace_66 ?_
      obtain ⟨a31, g32, h⟩ := bind_ok h
      refine q_getI cx fl_X10_86 g32 dX10_replace_69 ?_
      have h := Option.some.inj h
      exact k_iret cx hr hlk (by rw [← h]) (by rw [← h]) dX10_replace_72
    · have h := ite_f h c10
      refine k_sipush cx (-2000) dX10_replace_29 (by decide) ?_
      refine k_iload_n cx 0 dX10_replace_32 rfl rfl ?_
      refine k_isub cx dX10_replace_33 ?_
      have h := Option.some.inj h
      exact k_iret cx hr hlk (by rw [← h]) (by rw [← h]) dX10_replace_34
set_option maxRecDepth 100000 in
set_option maxHeartbeats 4000000 in
theorem w_X10_remove {Γ : GE} {σ : St} {t : Nat} {p1 : Int32} {ρ : Int32 × St} (hk : hpK σ t = 10) (h : f_X10_remove σ t p1 = some ρ) : Ct Γ yX10_remove cX10_remove 2 (some .int) 7 169 [va_rf (some t), .int p1] σ (some (.int ρ.1)) ρ.2 := by
  refine ct_intro (own := RX10) (L0 := [(0, va_rf (some t)), (1, .int p1)]) (by decide +kernel) rfl (by simp [lg_sl, cat_rf, cat_i, cat_j]) (by simp [lv_args, cat_rf, cat_i, cat_j]) ?_
  intro p l e s m args below meth c hr hlk hin cx
  have hk0 := dn_eq hk
  unfold f_X10_remove at h
  refine k_aload_n cx 0 dX10_remove_0 rfl rfl ?_
  refine q_getR cx fl_X10_19 hk0 dX10_remove_1 ?_
  refine k_iload_n cx 1 dX10_remove_4 rfl rfl ?_
  obtain ⟨a1, g2, h⟩ := bind_ok h
  obtain ⟨q3, g4, h⟩ := bind_ok h
  refine k_callV cx iv_X10_73 (ci := 5) rfl (by decide) (w_X5_lineAt (dn_some g2).2 g4) g2 (As := [.int p1]) rfl rfl ⟨Nat.le_of_ble_eq_true rfl, Nat.le_of_ble_eq_true rfl⟩ (by simp [cat_rf, cat_i, cat_j]) dX10_remove_5 ?_
  refine k_ifnonnull cx 14 dX10_remove_8 (by decide) (fun c5 => ?_) (fun a24 c5 => ?_)
  · have h := ite_t h c5
    refine k_bipush cx (-2) dX10_remove_11 (by decide) ?_
    have h := Option.some.inj h
    exact k_iret cx hr hlk (by rw [← h]) (by rw [← h]) dX10_remove_13
  · have h := ite_f h (ne_nn c5)
    refine k_aload_n cx 0 dX10_remove_14 rfl rfl ?_
    refine q_getR cx fl_X10_26 hk0 dX10_remove_15 ?_
    refine k_aload_n cx 0 dX10_remove_18 rfl rfl ?_
    refine q_getR cx fl_X10_19 hk0 dX10_remove_19 ?_
    obtain ⟨a6, g7, h⟩ := bind_ok h
    obtain ⟨q8, g9, h⟩ := bind_ok h
    refine k_callV cx iv_X10_58 (ci := 0) rfl (by decide) (w_X0_keepState (dn_some g7).2 g9) g7 (As := [va_rf (hpR σ 321 t)]) rfl rfl ⟨Nat.le_of_ble_eq_true rfl, Nat.le_of_ble_eq_true rfl⟩ (by simp [cat_rf, cat_i, cat_j]) dX10_remove_22 ?_
    refine k_aload_n cx 0 dX10_remove_25 rfl rfl ?_
    obtain ⟨a10, g11, h⟩ := bind_ok h
    refine q_getR cx fl_X10_19 g11 dX10_remove_26 ?_
    refine k_iload_n cx 1 dX10_remove_29 rfl rfl ?_
    obtain ⟨a12, g13, h⟩ := bind_ok h
    obtain ⟨q14, g15, h⟩ := bind_ok h
    refine k_callV cx iv_X10_89 (ci := 5) rfl (by decide) (w_X5_takeOut (dn_some g13).2 g15) g13 (As := [.int p1]) rfl rfl ⟨Nat.le_of_ble_eq_true rfl, Nat.le_of_ble_eq_true rfl⟩ (by simp [cat_rf, cat_i, cat_j]) dX10_remove_30 ?_
    refine k_aload_n cx 0 dX10_remove_33 rfl rfl ?_
    obtain ⟨a16, g17, h⟩ := bind_ok h
    obtain ⟨q18, g19, h⟩ := bind_ok h
    refine k_callV cx iv_X10_70 (ci := 10) rfl (by decide) (w_X10_layOut (dn_some g17).2 g19) g17 (As := []) rfl rfl ⟨Nat.le_of_ble_eq_true rfl, Nat.le_of_ble_eq_true rfl⟩ (by simp [cat_rf, cat_i, cat_j]) dX10_remove_34 ?_
    refine k_aload_n cx 0 dX10_remove_37 rfl rfl ?_
    obtain ⟨a20, g21, h⟩ := bind_ok h
    refine q_getR cx fl_X10_19 g21 dX10_remove_38 ?_
    obtain ⟨a22, g23, h⟩ := bind_ok h
    refine q_getI cx fl_X10_55 g23 dX10_remove_41 ?_
    have h := Option.some.inj h
    exact k_iret cx hr hlk (by rw [← h]) (by rw [← h]) dX10_remove_44
set_option maxRecDepth 100000 in
set_option maxHeartbeats 4000000 in
theorem w_X10_toggle {Γ : GE} {σ : St} {t : Nat} {p1 : Int32} {p2 : Int32} {ρ : Int32 × St} (hk : hpK σ t = 10) (h : f_X10_toggle σ t p1 p2 = some ρ) : Ct Γ yX10_toggle cX10_toggle 6 (some .int) 7 169 [va_rf (some t), .int p1, .int p2] σ (some (.int ρ.1)) ρ.2 := by
  refine ct_intro (own := RX10) (L0 := [(0, va_rf (some t)), (1, .int p1), (2, .int p2)]) (by decide +kernel) rfl (by simp [lg_sl, cat_rf, cat_i, cat_j]) (by simp [lv_args, cat_rf, cat_i, cat_j]) ?_
  intro p l e s m args below meth c hr hlk hin cx
  have hk0 := dn_eq hk
  unfold f_X10_toggle at h
  refine k_aload_n cx 0 dX10_toggle_0 rfl rfl ?_
  refine q_getR cx fl_X10_19 hk0 dX10_toggle_1 ?_
  refine k_iload_n cx 1 dX10_toggle_4 rfl rfl ?_
  obtain ⟨a1, g2, h⟩ := bind_ok h
  obtain ⟨q3, g4, h⟩ := bind_ok h
  refine k_callV cx iv_X10_73 (ci := 5) rfl (by decide) (w_X5_lineAt (dn_some g2).2 g4) g2 (As := [.int p1]) rfl rfl ⟨Nat.le_of_ble_eq_true rfl, Nat.le_of_ble_eq_true rfl⟩ (by simp [cat_rf, cat_i, cat_j]) dX10_toggle_5 ?_
  refine k_astore_n cx (i := 3) [(3, va_rf q3), (0, va_rf (some t)), (1, .int p1), (2, .int p2)] dX10_toggle_8 rfl (by decide) (by simp [cat_rf, cat_i, cat_j]) ?_
  refine k_aload_n cx 0 dX10_toggle_9 rfl rfl ?_
  refine k_ifnonnull cx 16 dX10_toggle_10 (by decide) (fun c5 => ?_) (fun a46 c5 => ?_)
  · have h := ite_t h c5
    refine k_bipush cx (-2) dX10_toggle_13 (by decide) ?_
    have h := Option.some.inj h
    exact k_iret cx hr hlk (by rw [← h]) (by rw [← h]) dX10_toggle_15
  · have h := ite_f h (ne_nn c5)
    refine k_aload_n cx 1 dX10_toggle_16 rfl rfl ?_
    refine q_getR cx fl_X10_26 hk0 dX10_toggle_17 ?_
    refine k_aload_n cx 1 dX10_toggle_20 rfl rfl ?_
    refine q_getR cx fl_X10_19 hk0 dX10_toggle_21 ?_
    obtain ⟨a6, g7, h⟩ := bind_ok h
    obtain ⟨q8, g9, h⟩ := bind_ok h
    refine k_callV cx iv_X10_58 (ci := 0) rfl (by decide) (w_X0_keepState (dn_some g7).2 g9) g7 (As := [va_rf (hpR σ 321 t)]) rfl rfl ⟨Nat.le_of_ble_eq_true rfl, Nat.le_of_ble_eq_true rfl⟩ (by simp [cat_rf, cat_i, cat_j]) dX10_toggle_24 ?_
    refine k_iload_n cx 3 dX10_toggle_27 rfl rfl ?_
    obtain ⟨x10, hxx10, h⟩ := bind_ok h
    have Kx10 : Og p l e s m args below meth c Γ 6 7 169 σ (some (.int ρ.1)) ρ.2 50 [(0, va_rf (some t)), (1, .int p1), (2, .int p2), (3, va_rf q3)] [.int x10] q8 := by
      refine k_istore cx [(4, .int x10), (0, va_rf (some t)), (1, .int p1), (2, .int p2), (3, va_rf q3)] dX10_toggle_50 (by decide) (by simp [cat_rf, cat_i, cat_j]) ?_
      refine k_iload_n cx 3 dX10_toggle_52 rfl rfl ?_
      obtain ⟨x17, hxx17, h⟩ := bind_ok h
      have Kx17 : Og p l e s m args below meth c Γ 6 7 169 σ (some (.int ρ.1)) ρ.2 75 [(0, va_rf (some t)), (1, .int p1), (2, .int p2), (3, va_rf q3), (4, .int x10)] [.int x17] q8 := by
        refine k_istore cx [(5, .int x17), (0, va_rf (some t)), (1, .int p1), (2, .int p2), (3, va_rf q3), (4, .int x10)] dX10_toggle_75 (by decide) (by simp [cat_rf, cat_i, cat_j]) ?_
        refine k_aload_n cx 1 dX10_toggle_77 rfl rfl ?_
        obtain ⟨a24, g25, h⟩ := bind_ok h
        refine q_getR cx fl_X10_19 g25 dX10_toggle_78 ?_
        refine k_iload_n cx 2 dX10_toggle_81 rfl rfl ?_
        obtain ⟨σ26, g27, h⟩ := bind_ok h
        refine k_new cx nw_X10_81 g27 dX10_toggle_82 ?_
        refine k_dup cx (by simp [cat_rf, cat_i, cat_j]) dX10_toggle_85 ?_
        refine k_aload_n cx 4 dX10_toggle_86 rfl rfl ?_
        obtain ⟨a28, g29, h⟩ := bind_ok h
        refine q_getR cx fl_X10_80 g29 dX10_toggle_87 ?_
        refine k_aload_n cx 4 dX10_toggle_90 rfl rfl ?_
        refine q_getI cx fl_X10_106 g29 dX10_toggle_91 ?_
        refine k_iload cx 5 dX10_toggle_94 rfl ?_
        refine k_iload cx 0 dX10_toggle_96 rfl ?_
        obtain ⟨a30, g31, h⟩ := bind_ok h
        obtain ⟨q32, g33, h⟩ := bind_ok h
        refine k_callI cx iv_X10_109 (w_X2_init (dn_some g31).2 g33) (dn_some g31).1 (As := [va_rf (hpR σ26 64 a28), .int (hpI σ26 65 a28), .int x10, .int x17]) rfl rfl ⟨Nat.le_of_ble_eq_true rfl, Nat.le_of_ble_eq_true rfl⟩ (by simp [cat_rf, cat_i, cat_j]) dX10_toggle_98 ?_
        obtain ⟨a34, g35, h⟩ := bind_ok h
        obtain ⟨q36, g37, h⟩ := bind_ok h
        refine k_callV cx iv_X10_77 (ci := 5) rfl (by decide) (w_X5_exchange (dn_some g35).2 g37) g35 (As := [.int p1, va_rf (some (hpN q8))]) rfl rfl ⟨Nat.le_of_ble_eq_true rfl, Nat.le_of_ble_eq_true rfl⟩ (by simp [cat_rf, cat_i, cat_j]) dX10_toggle_101 ?_
        refine k_aload_n cx 1 dX10_toggle_104 rfl rfl ?_
        obtain ⟨a38, g39, h⟩ := bind_ok h
        obtain ⟨q40, g41, h⟩ := bind_ok h
        refine k_callV cx iv_X10_70 (ci := 10) rfl (by decide) (w_X10_layOut (dn_some g39).2 g41) g39 (As := []) rfl rfl ⟨Nat.le_of_ble_eq_true rfl, Nat.le_of_ble_eq_true rfl⟩ (by simp [cat_rf, cat_i, cat_j]) dX10_toggle_105 ?_
        refine k_iload_n cx 3 dX10_toggle_108 rfl rfl ?_
        obtain ⟨x42, hxx42, h⟩ := bind_ok h
        have Kx42 : Og p l e s m args below meth c Γ 6 7 169 σ (some (.int ρ.1)) ρ.2 119 [] [.int x42] q40 := by
          obtain ⟨q44, g45, h⟩ := bind_ok h
          refine k_callS cx iv_X10_112 (w_X10_oneIf g45) (As := [.int x42]) rfl rfl ⟨Nat.le_of_ble_eq_true rfl, Nat.le_of_ble_eq_true rfl⟩ (by simp [cat_rf, cat_i, cat_j]) dX10_toggle_119 ?_
          have h := Option.some.inj h
          exact k_iret cx hr hlk (by rw [← h]) (by rw [← h]) dX10_toggle_122
        have h := hxx42
        refine k_if_eq cx 117 dX10_toggle_109 (by decide) (fun c43 => ?_) (fun c43 => ?_)
        · have h := ite_t h c43
          refine k_iload cx 0 dX10_toggle_117 rfl ?_
          refine k_sub [] rfl ?_
          obtain rfl := Option.some.inj h
          exact Kx42
        · have h := ite_f h c43
          refine k_iload cx 5 dX10_toggle_112 rfl ?_
          refine k_goto cx 119 dX10_toggle_114 (by decide) ?_
          refine k_sub [] rfl ?_
          obtain rfl := Option.some.inj h
          exact Kx42
      have h := hxx17
      refine k_if_eq cx 63 dX10_toggle_53 (by decide) (fun c18 => ?_) (fun c18 => ?_)
      · have h := ite_t h c18
        refine k_aload_n cx 4 dX10_toggle_63 rfl rfl ?_
        obtain ⟨a19, g20, h⟩ := bind_ok h
        refine q_getI cx fl_X10_103 g20 dX10_toggle_64 ?_
        refine k_if_ne cx 74 dX10_toggle_67 (by decide) (fun c21 => ?_) (fun c21 => ?_)
        · have h := ite_t h c21
          refine k_iconst cx 0 dX10_toggle_74 (by decide) ?_
          refine k_sub [1, 2, 3, 4, 0] rfl ?_
          obtain rfl := Option.some.inj h
          exact Kx17
        · have h := ite_f h c21
          refine k_iconst cx 1 dX10_toggle_70 (by decide) ?_
          refine k_goto cx 75 dX10_toggle_71 (by decide) ?_
          refine k_sub [1, 2, 3, 4, 0] rfl ?_
          obtain rfl := Option.some.inj h
          exact Kx17
      · have h := ite_f h c18
        refine k_aload_n cx 4 dX10_toggle_56 rfl rfl ?_
        obtain ⟨a22, g23, h⟩ := bind_ok h
        refine q_getI cx fl_X10_103 g23 dX10_toggle_57 ?_
        refine k_goto cx 75 dX10_toggle_60 (by decide) ?_
        refine k_sub [1, 2, 3, 4, 0] rfl ?_
        obtain rfl := Option.some.inj h
        exact Kx17
    have h := hxx10
    refine k_if_eq cx 46 dX10_toggle_28 (by decide) (fun c11 => ?_) (fun c11 => ?_)
    · have h := ite_t h c11
      refine k_aload_n cx 0 dX10_toggle_46 rfl rfl ?_
      obtain ⟨a12, g13, h⟩ := bind_ok h
      refine q_getI cx fl_X10_99 g13 dX10_toggle_47 ?_
      refine k_sub [1, 2, 3, 0] rfl ?_
      obtain rfl := Option.some.inj h
      exact Kx10
    · have h := ite_f h c11
      refine k_aload_n cx 0 dX10_toggle_31 rfl rfl ?_
      obtain ⟨a14, g15, h⟩ := bind_ok h
      refine q_getI cx fl_X10_99 g15 dX10_toggle_32 ?_
      refine k_if_ne cx 42 dX10_toggle_35 (by decide) (fun c16 => ?_) (fun c16 => ?_)
      · have h := ite_t h c16
        refine k_iconst cx 0 dX10_toggle_42 (by decide) ?_
        refine k_goto cx 50 dX10_toggle_43 (by decide) ?_
        refine k_sub [1, 2, 3, 0] rfl ?_
        obtain rfl := Option.some.inj h
        exact Kx10
      · have h := ite_f h c16
        refine k_iconst cx 1 dX10_toggle_38 (by decide) ?_
        refine k_goto cx 50 dX10_toggle_39 (by decide) ?_
        refine k_sub [1, 2, 3, 0] rfl ?_
        obtain rfl := Option.some.inj h
        exact Kx10
set_option maxRecDepth 100000 in
set_option maxHeartbeats 4000000 in
theorem w_X10_line {Γ : GE} {σ : St} {t : Nat} {p1 : Int32} {p2 : Int32} {ρ : Int32} (hk : hpK σ t = 10) (h : f_X10_line σ t p1 p2 = some ρ) : Ct Γ yX10_line cX10_line 5 (some .int) 1 21 [va_rf (some t), .int p1, .int p2] σ (some (.int ρ)) σ := by
  refine ct_intro (own := RX10) (L0 := [(0, va_rf (some t)), (1, .int p1), (2, .int p2)]) (by decide +kernel) rfl (by simp [lg_sl, cat_rf, cat_i, cat_j]) (by simp [lv_args, cat_rf, cat_i, cat_j]) ?_
  intro p l e s m args below meth c hr hlk hin cx
  have hk0 := dn_eq hk
  unfold f_X10_line at h
  refine k_aload_n cx 0 dX10_line_0 rfl rfl ?_
  refine q_getR cx fl_X10_19 hk0 dX10_line_1 ?_
  refine k_iload_n cx 1 dX10_line_4 rfl rfl ?_
  obtain ⟨a1, g2, h⟩ := bind_ok h
  obtain ⟨q3, g4, h⟩ := bind_ok h
  refine k_callV cx iv_X10_73 (ci := 5) rfl (by decide) (w_X5_lineAt (dn_some g2).2 g4) g2 (As := [.int p1]) rfl rfl ⟨Nat.le_of_ble_eq_true rfl, Nat.le_of_ble_eq_true rfl⟩ (by simp [cat_rf, cat_i, cat_j]) dX10_line_5 ?_
  refine k_astore_n cx (i := 3) [(3, va_rf q3), (0, va_rf (some t)), (1, .int p1), (2, .int p2)] dX10_line_8 rfl (by decide) (by simp [cat_rf, cat_i, cat_j]) ?_
  refine k_aload_n cx 1 dX10_line_9 rfl rfl ?_
  refine q_getR cx fl_X10_33 hk0 dX10_line_10 ?_
  refine k_iload_n cx 2 dX10_line_13 rfl rfl ?_
  obtain ⟨a5, g6, h⟩ := bind_ok h
  obtain ⟨q7, g8, h⟩ := bind_ok h
  refine k_callV cx iv_X10_116 (ci := 1) rfl (by decide) (w_X1_spanAt (dn_some g6).2 g8) g6 (As := [.int p1]) rfl rfl ⟨Nat.le_of_ble_eq_true rfl, Nat.le_of_ble_eq_true rfl⟩ (by simp [cat_rf, cat_i, cat_j]) dX10_line_14 ?_
  refine k_astore cx [(4, va_rf q7), (3, va_rf q3), (0, va_rf (some t)), (1, .int p1), (2, .int p2)] dX10_line_17 (by decide) (by simp [cat_rf, cat_i, cat_j]) ?_
  refine k_aload_n cx 1 dX10_line_19 rfl rfl ?_
  refine k_ifnull cx 28 dX10_line_20 (by decide) (fun c9 => ?_) (fun a42 c9 => ?_)
  · have h := ite_t h c9
    refine k_bipush cx (-2) dX10_line_28 (by decide) ?_
    have h := Option.some.inj h
    exact k_iret cx hr hlk (by rw [← h]) rfl dX10_line_30
  · have h := ite_f h (ne_nn c9)
    refine k_aload cx 0 dX10_line_23 rfl ?_
    refine k_ifnonnull cx 31 dX10_line_25 (by decide) (fun c10 => ?_) (fun a41 c10 => ?_)
    · have h := ite_t h c10
      refine k_bipush cx (-2) dX10_line_28 (by decide) ?_
      have h := Option.some.inj h
      exact k_iret cx hr hlk (by rw [← h]) rfl dX10_line_30
    · have h := ite_f h (ne_nn c10)
      refine k_iload_n cx 4 dX10_line_31 rfl rfl ?_
      refine k_switch cx dX10_line_32 (by decide) (fun hs => ?_) (by decide) (fun k off ho hs => ?_)
      · have h0 : ¬ p2 = 0 := fun q => by rw [q] at hs; revert hs; decide
        have h1 : ¬ p2 = 1 := fun q => by rw [q] at hs; revert hs; decide
        have h2 : ¬ p2 = 2 := fun q => by rw [q] at hs; revert hs; decide
        have h3 : ¬ p2 = 3 := fun q => by rw [q] at hs; revert hs; decide
        have h4 : ¬ p2 = 4 := fun q => by rw [q] at hs; revert hs; decide
        have h5 : ¬ p2 = 5 := fun q => by rw [q] at hs; revert hs; decide
        have h6 : ¬ p2 = 6 := fun q => by rw [q] at hs; revert hs; decide
        have h7 : ¬ p2 = 7 := fun q => by rw [q] at hs; revert hs; decide
        have h8 : ¬ p2 = 8 := fun q => by rw [q] at hs; revert hs; decide
        have h9 : ¬ p2 = 9 := fun q => by rw [q] at hs; revert hs; decide
        have h := ite_f h h0
        have h := ite_f h h1
        have h := ite_f h h2
        have h := ite_f h h3
        have h := ite_f h h4
        have h := ite_f h h5
        have h := ite_f h h6
        have h := ite_f h h7
        have h := ite_f h h8
        have h := ite_f h h9
        refine k_bipush cx (-2) dX10_line_158 (by decide) ?_
        have h := Option.some.inj h
        exact k_iret cx hr hlk (by rw [← h]) rfl dX10_line_160
      · match k, ho with
        | 0, ho =>
          cases ho
          have hv : p2 = 0 := Int32.toInt_inj.mp (by rw [hs]; rfl)
          have h := ite_t h hv
          refine ⟨by decide, ?_⟩
          refine k_aload_n cx 1 dX10_line_88 rfl rfl ?_
          obtain ⟨a11, g12, h⟩ := bind_ok h
          refine q_getR cx fl_X10_80 g12 dX10_line_89 ?_
          obtain ⟨a13, g14, h⟩ := bind_ok h
          refine q_getI cx fl_X10_120 g14 dX10_line_92 ?_
          have h := Option.some.inj h
          exact k_iret cx hr hlk (by rw [← h]) rfl dX10_line_95
        | 1, ho =>
          cases ho
          have hv : p2 = 1 := Int32.toInt_inj.mp (by rw [hs]; rfl)
          have h := ite_f h (show ¬ p2 = 0 from fun q => by rw [hv] at q; revert q; decide)
          have h := ite_t h hv
          refine ⟨by decide, ?_⟩
          refine k_aload_n cx 1 dX10_line_96 rfl rfl ?_
          obtain ⟨a15, g16, h⟩ := bind_ok h
          refine q_getR cx fl_X10_80 g16 dX10_line_97 ?_
          obtain ⟨a17, g18, h⟩ := bind_ok h
          refine q_getI cx fl_X10_86 g18 dX10_line_100 ?_
          have h := Option.some.inj h
          exact k_iret cx hr hlk (by rw [← h]) rfl dX10_line_103
        | 2, ho =>
          cases ho
          have hv : p2 = 2 := Int32.toInt_inj.mp (by rw [hs]; rfl)
          have h := ite_f h (show ¬ p2 = 0 from fun q => by rw [hv] at q; revert q; decide)
          have h := ite_f h (show ¬ p2 = 1 from fun q => by rw [hv] at q; revert q; decide)
          have h := ite_t h hv
          refine ⟨by decide, ?_⟩
          refine k_aload_n cx 1 dX10_line_104 rfl rfl ?_
          obtain ⟨a19, g20, h⟩ := bind_ok h
          refine q_getI cx fl_X10_106 g20 dX10_line_105 ?_
          have h := Option.some.inj h
          exact k_iret cx hr hlk (by rw [← h]) rfl dX10_line_108
        | 3, ho =>
          cases ho
          have hv : p2 = 3 := Int32.toInt_inj.mp (by rw [hs]; rfl)
          have h := ite_f h (show ¬ p2 = 0 from fun q => by rw [hv] at q; revert q; decide)
          have h := ite_f h (show ¬ p2 = 1 from fun q => by rw [hv] at q; revert q; decide)
          have h := ite_f h (show ¬ p2 = 2 from fun q => by rw [hv] at q; revert q; decide)
          have h := ite_t h hv
          refine ⟨by decide, ?_⟩
          refine k_aload_n cx 1 dX10_line_109 rfl rfl ?_
          obtain ⟨a21, g22, h⟩ := bind_ok h
          refine q_getI cx fl_X10_99 g22 dX10_line_110 ?_
          obtain ⟨q23, g24, h⟩ := bind_ok h
          refine k_callS cx iv_X10_112 (w_X10_oneIf g24) (As := [.int (hpI σ 66 a21)]) rfl rfl ⟨Nat.le_of_ble_eq_true rfl, Nat.le_of_ble_eq_true rfl⟩ (by simp [cat_rf, cat_i, cat_j]) dX10_line_113 ?_
          have h := Option.some.inj h
          exact k_iret cx hr hlk (by rw [← h]) rfl dX10_line_116
        | 4, ho =>
          cases ho
          have hv : p2 = 4 := Int32.toInt_inj.mp (by rw [hs]; rfl)
          have h := ite_f h (show ¬ p2 = 0 from fun q => by rw [hv] at q; revert q; decide)
          have h := ite_f h (show ¬ p2 = 1 from fun q => by rw [hv] at q; revert q; decide)
          have h := ite_f h (show ¬ p2 = 2 from fun q => by rw [hv] at q; revert q; decide)
          have h := ite_f h (show ¬ p2 = 3 from fun q => by rw [hv] at q; revert q; decide)
          have h := ite_t h hv
          refine ⟨by decide, ?_⟩
          refine k_aload cx 0 dX10_line_117 rfl ?_
          obtain ⟨a25, g26, h⟩ := bind_ok h
          refine q_getI cx fl_X10_123 g26 dX10_line_119 ?_
          obtain ⟨q27, g28, h⟩ := bind_ok h
          refine k_callS cx iv_X10_112 (w_X10_oneIf g28) (As := [.int (hpI σ 96 a25)]) rfl rfl ⟨Nat.le_of_ble_eq_true rfl, Nat.le_of_ble_eq_true rfl⟩ (by simp [cat_rf, cat_i, cat_j]) dX10_line_122 ?_
          have h := Option.some.inj h
          exact k_iret cx hr hlk (by rw [← h]) rfl dX10_line_125
        | 5, ho =>
          cases ho
          have hv : p2 = 5 := Int32.toInt_inj.mp (by rw [hs]; rfl)
          have h := ite_f h (show ¬ p2 = 0 from fun q => by rw [hv] at q; revert q; decide)
          have h := ite_f h (show ¬ p2 = 1 from fun q => by rw [hv] at q; revert q; decide)
          have h := ite_f h (show ¬ p2 = 2 from fun q => by rw [hv] at q; revert q; decide)
          have h := ite_f h (show ¬ p2 = 3 from fun q => by rw [hv] at q; revert q; decide)
          have h := ite_f h (show ¬ p2 = 4 from fun q => by rw [hv] at q; revert q; decide)
          have h := ite_t h hv
          refine ⟨by decide, ?_⟩
          refine k_aload_n cx 1 dX10_line_126 rfl rfl ?_
          obtain ⟨a29, g30, h⟩ := bind_ok h
          refine q_getI cx fl_X10_103 g30 dX10_line_127 ?_
          obtain ⟨q31, g32, h⟩ := bind_ok h
          refine k_callS cx iv_X10_112 (w_X10_oneIf g32) (As := [.int (hpI σ 67 a29)]) rfl rfl ⟨Nat.le_of_ble_eq_true rfl, Nat.le_of_ble_eq_true rfl⟩ (by simp [cat_rf, cat_i, cat_j]) dX10_line_130 ?_
          have h := Option.some.inj h
          exact k_iret cx hr hlk (by rw [← h]) rfl dX10_line_133
        | 6, ho =>
          cases ho
          have hv : p2 = 6 := Int32.toInt_inj.mp (by rw [hs]; rfl)
          have h := ite_f h (show ¬ p2 = 0 from fun q => by rw [hv] at q; revert q; decide)
          have h := ite_f h (show ¬ p2 = 1 from fun q => by rw [hv] at q; revert q; decide)
          have h := ite_f h (show ¬ p2 = 2 from fun q => by rw [hv] at q; revert q; decide)
          have h := ite_f h (show ¬ p2 = 3 from fun q => by rw [hv] at q; revert q; decide)
          have h := ite_f h (show ¬ p2 = 4 from fun q => by rw [hv] at q; revert q; decide)
          have h := ite_f h (show ¬ p2 = 5 from fun q => by rw [hv] at q; revert q; decide)
          have h := ite_t h hv
          refine ⟨by decide, ?_⟩
          refine k_aload cx 0 dX10_line_134 rfl ?_
          obtain ⟨a33, g34, h⟩ := bind_ok h
          refine q_getI cx fl_X10_128 g34 dX10_line_136 ?_
          have h := Option.some.inj h
          exact k_iret cx hr hlk (by rw [← h]) rfl dX10_line_139
        | 7, ho =>
          cases ho
          have hv : p2 = 7 := Int32.toInt_inj.mp (by rw [hs]; rfl)
          have h := ite_f h (show ¬ p2 = 0 from fun q => by rw [hv] at q; revert q; decide)
          have h := ite_f h (show ¬ p2 = 1 from fun q => by rw [hv] at q; revert q; decide)
          have h := ite_f h (show ¬ p2 = 2 from fun q => by rw [hv] at q; revert q; decide)
          have h := ite_f h (show ¬ p2 = 3 from fun q => by rw [hv] at q; revert q; decide)
          have h := ite_f h (show ¬ p2 = 4 from fun q => by rw [hv] at q; revert q; decide)
          have h := ite_f h (show ¬ p2 = 5 from fun q => by rw [hv] at q; revert q; decide)
          have h := ite_f h (show ¬ p2 = 6 from fun q => by rw [hv] at q; revert q; decide)
          have h := ite_t h hv
          refine ⟨by decide, ?_⟩
          refine k_aload cx 0 dX10_line_140 rfl ?_
          obtain ⟨a35, g36, h⟩ := bind_ok h
          refine q_getI cx fl_X10_131 g36 dX10_line_142 ?_
          have h := Option.some.inj h
          exact k_iret cx hr hlk (by rw [← h]) rfl dX10_line_145
        | 8, ho =>
          cases ho
          have hv : p2 = 8 := Int32.toInt_inj.mp (by rw [hs]; rfl)
          have h := ite_f h (show ¬ p2 = 0 from fun q => by rw [hv] at q; revert q; decide)
          have h := ite_f h (show ¬ p2 = 1 from fun q => by rw [hv] at q; revert q; decide)
          have h := ite_f h (show ¬ p2 = 2 from fun q => by rw [hv] at q; revert q; decide)
          have h := ite_f h (show ¬ p2 = 3 from fun q => by rw [hv] at q; revert q; decide)
          have h := ite_f h (show ¬ p2 = 4 from fun q => by rw [hv] at q; revert q; decide)
          have h := ite_f h (show ¬ p2 = 5 from fun q => by rw [hv] at q; revert q; decide)
          have h := ite_f h (show ¬ p2 = 6 from fun q => by rw [hv] at q; revert q; decide)
          have h := ite_f h (show ¬ p2 = 7 from fun q => by rw [hv] at q; revert q; decide)
          have h := ite_t h hv
          refine ⟨by decide, ?_⟩
          refine k_aload cx 0 dX10_line_146 rfl ?_
          obtain ⟨a37, g38, h⟩ := bind_ok h
          refine q_getI cx fl_X10_134 g38 dX10_line_148 ?_
          have h := Option.some.inj h
          exact k_iret cx hr hlk (by rw [← h]) rfl dX10_line_151
        | 9, ho =>
          cases ho
          have hv : p2 = 9 := Int32.toInt_inj.mp (by rw [hs]; rfl)
          have h := ite_f h (show ¬ p2 = 0 from fun q => by rw [hv] at q; revert q; decide)
          have h := ite_f h (show ¬ p2 = 1 from fun q => by rw [hv] at q; revert q; decide)
          have h := ite_f h (show ¬ p2 = 2 from fun q => by rw [hv] at q; revert q; decide)
          have h := ite_f h (show ¬ p2 = 3 from fun q => by rw [hv] at q; revert q; decide)
          have h := ite_f h (show ¬ p2 = 4 from fun q => by rw [hv] at q; revert q; decide)
          have h := ite_f h (show ¬ p2 = 5 from fun q => by rw [hv] at q; revert q; decide)
          have h := ite_f h (show ¬ p2 = 6 from fun q => by rw [hv] at q; revert q; decide)
          have h := ite_f h (show ¬ p2 = 7 from fun q => by rw [hv] at q; revert q; decide)
          have h := ite_f h (show ¬ p2 = 8 from fun q => by rw [hv] at q; revert q; decide)
          have h := ite_t h hv
          refine ⟨by decide, ?_⟩
          refine k_aload cx 0 dX10_line_152 rfl ?_
          obtain ⟨a39, g40, h⟩ := bind_ok h
          refine q_getI cx fl_X10_137 g40 dX10_line_154 ?_
          have h := Option.some.inj h
          exact k_iret cx hr hlk (by rw [← h]) rfl dX10_line_157
        | k + 10, ho => exact absurd ho (by simp)
set_option maxRecDepth 100000 in
set_option maxHeartbeats 4000000 in
theorem w_X10_letter {Γ : GE} {σ : St} {t : Nat} {p1 : Int32} {p2 : Int32} {ρ : Int32} (hk : hpK σ t = 10) (h : f_X10_letter σ t p1 p2 = some ρ) : Ct Γ yX10_letter cX10_letter 4 (some .int) 1 21 [va_rf (some t), .int p1, .int p2] σ (some (.int ρ)) σ := by
  refine ct_intro (own := RX10) (L0 := [(0, va_rf (some t)), (1, .int p1), (2, .int p2)]) (by decide +kernel) rfl (by simp [lg_sl, cat_rf, cat_i, cat_j]) (by simp [lv_args, cat_rf, cat_i, cat_j]) ?_
  intro p l e s m args below meth c hr hlk hin cx
  have hk0 := dn_eq hk
  unfold f_X10_letter at h
  refine k_aload_n cx 0 dX10_letter_0 rfl rfl ?_
  refine q_getR cx fl_X10_19 hk0 dX10_letter_1 ?_
  refine k_iload_n cx 1 dX10_letter_4 rfl rfl ?_
  obtain ⟨a1, g2, h⟩ := bind_ok h
  obtain ⟨q3, g4, h⟩ := bind_ok h
  refine k_callV cx iv_X10_73 (ci := 5) rfl (by decide) (w_X5_lineAt (dn_some g2).2 g4) g2 (As := [.int p1]) rfl rfl ⟨Nat.le_of_ble_eq_true rfl, Nat.le_of_ble_eq_true rfl⟩ (by simp [cat_rf, cat_i, cat_j]) dX10_letter_5 ?_
  refine k_astore_n cx (i := 3) [(3, va_rf q3), (0, va_rf (some t)), (1, .int p1), (2, .int p2)] dX10_letter_8 rfl (by decide) (by simp [cat_rf, cat_i, cat_j]) ?_
  refine k_aload_n cx 0 dX10_letter_9 rfl rfl ?_
  refine k_ifnull cx 17 dX10_letter_10 (by decide) (fun c5 => ?_) (fun a13 c5 => ?_)
  · have h := ite_t h c5
    refine k_bipush cx (-2) dX10_letter_17 (by decide) ?_
    have h := Option.some.inj h
    exact k_iret cx hr hlk (by rw [← h]) rfl dX10_letter_19
  · have h := ite_f h (ne_nn c5)
    refine k_iload_n cx 3 dX10_letter_13 rfl rfl ?_
    refine k_if_ge cx 20 dX10_letter_14 (by decide) (fun c6 => ?_) (fun c6 => ?_)
    · have h := ite_t h c6
      refine k_aload_n cx 0 dX10_letter_20 rfl rfl ?_
      obtain ⟨a7, g8, h⟩ := bind_ok h
      refine q_getR cx fl_X10_80 g8 dX10_letter_21 ?_
      refine k_iload_n cx 3 dX10_letter_24 rfl rfl ?_
      obtain ⟨a9, g10, h⟩ := bind_ok h
      obtain ⟨q11, g12, h⟩ := bind_ok h
      refine k_callV cx iv_X10_140 (ci := 9) rfl (by decide) (w_X9_byteAt (dn_some g10).2 g12) g10 (As := [.int p2]) rfl rfl ⟨Nat.le_of_ble_eq_true rfl, Nat.le_of_ble_eq_true rfl⟩ (by simp [cat_rf, cat_i, cat_j]) dX10_letter_25 ?_
      have h := Option.some.inj h
      exact k_iret cx hr hlk (by rw [← h]) rfl dX10_letter_28
    · have h := ite_f h c6
      refine k_bipush cx (-2) dX10_letter_17 (by decide) ?_
      have h := Option.some.inj h
      exact k_iret cx hr hlk (by rw [← h]) rfl dX10_letter_19
set_option maxRecDepth 100000 in
set_option maxHeartbeats 4000000 in
theorem w_X10_set {Γ : GE} {σ : St} {t : Nat} {p1 : Int32} {p2 : Int32} {ρ : Int32 × St} (hk : hpK σ t = 10) (h : f_X10_set σ t p1 p2 = some ρ) : Ct Γ yX10_set cX10_set 4 (some .int) 7 169 [va_rf (some t), .int p1, .int p2] σ (some (.int ρ.1)) ρ.2 := by
  refine ct_intro (own := RX10) (L0 := [(0, va_rf (some t)), (1, .int p1), (2, .int p2)]) (by decide +kernel) rfl (by simp [lg_sl, cat_rf, cat_i, cat_j]) (by simp [lv_args, cat_rf, cat_i, cat_j]) ?_
  intro p l e s m args below meth c hr hlk hin cx
  have hk0 := dn_eq hk
  unfold f_X10_set at h
  refine k_iload_n cx 1 dX10_set_0 rfl rfl ?_
  refine k_if_lt cx 31 dX10_set_1 (by decide) (fun c1 => ?_) (fun c1 => ?_)
  · have h := ite_t h c1
    refine k_bipush cx (-2) dX10_set_31 (by decide) ?_
    have h := Option.some.inj h
    exact k_iret cx hr hlk (by rw [← h]) (by rw [← h]) dX10_set_33
  · have h := ite_f h c1
    refine k_iload_n cx 1 dX10_set_4 rfl rfl ?_
    refine k_iconst cx 5 dX10_set_5 (by decide) ?_
    refine k_icmp_ge cx 31 dX10_set_6 (by decide) (fun c2 => ?_) (fun c2 => ?_)
    · have h := ite_t h c2
      refine k_bipush cx (-2) dX10_set_31 (by decide) ?_
      have h := Option.some.inj h
      exact k_iret cx hr hlk (by rw [← h]) (by rw [← h]) dX10_set_33
    · have h := ite_f h c2
      refine k_iload_n cx 2 dX10_set_9 rfl rfl ?_
      refine k_gets cx (i := 1) rfl gl_X10_144 dX10_set_10 ?_
      refine k_iload_n cx 1 dX10_set_13 rfl rfl ?_
      obtain ⟨q3, g4, h⟩ := bind_ok h
      refine k_callS cx iv_X10_148 (w_X10_element g4) (As := [va_rf (some (hpG σ 1)), .int p1]) rfl rfl ⟨Nat.le_of_ble_eq_true rfl, Nat.le_of_ble_eq_true rfl⟩ (by simp [cat_rf, cat_i, cat_j]) dX10_set_14 ?_
      refine k_icmp_lt cx 31 dX10_set_17 (by decide) (fun c5 => ?_) (fun c5 => ?_)
      · have h := ite_t h c5
        refine k_bipush cx (-2) dX10_set_31 (by decide) ?_
        have h := Option.some.inj h
        exact k_iret cx hr hlk (by rw [← h]) (by rw [← h]) dX10_set_33
      · have h := ite_f h c5
        refine k_iload_n cx 2 dX10_set_20 rfl rfl ?_
        refine k_gets cx (i := 2) rfl gl_X10_152 dX10_set_21 ?_
        refine k_iload_n cx 1 dX10_set_24 rfl rfl ?_
        obtain ⟨q6, g7, h⟩ := bind_ok h
        refine k_callS cx iv_X10_148 (w_X10_element g7) (As := [va_rf (some (hpG σ 2)), .int p1]) rfl rfl ⟨Nat.le_of_ble_eq_true rfl, Nat.le_of_ble_eq_true rfl⟩ (by simp [cat_rf, cat_i, cat_j]) dX10_set_25 ?_
        refine k_icmp_le cx 34 dX10_set_28 (by decide) (fun c8 => ?_) (fun c8 => ?_)
        · have h := ite_t h c8
          refine k_aload_n cx 0 dX10_set_34 rfl rfl ?_
          refine q_getR cx fl_X10_19 hk0 dX10_set_35 ?_
          refine k_iload_n cx 1 dX10_set_38 rfl rfl ?_
          obtain ⟨a9, g10, h⟩ := bind_ok h
          obtain ⟨q11, g12, h⟩ := bind_ok h
          refine k_callV cx iv_X10_155 (ci := 5) rfl (by decide) (w_X5_setting (dn_some g10).2 g12) g10 (As := [.int p1]) rfl rfl ⟨Nat.le_of_ble_eq_true rfl, Nat.le_of_ble_eq_true rfl⟩ (by simp [cat_rf, cat_i, cat_j]) dX10_set_39 ?_
          refine k_istore_n cx (i := 3) [(3, .int q11), (0, va_rf (some t)), (1, .int p1), (2, .int p2)] dX10_set_42 rfl (by decide) (by simp [cat_rf, cat_i, cat_j]) ?_
          refine k_aload_n cx 1 dX10_set_43 rfl rfl ?_
          refine q_getR cx fl_X10_26 hk0 dX10_set_44 ?_
          refine k_aload_n cx 1 dX10_set_47 rfl rfl ?_
          refine q_getR cx fl_X10_19 hk0 dX10_set_48 ?_
          obtain ⟨a13, g14, h⟩ := bind_ok h
          obtain ⟨q15, g16, h⟩ := bind_ok h
          refine k_callV cx iv_X10_58 (ci := 0) rfl (by decide) (w_X0_keepState (dn_some g14).2 g16) g14 (As := [va_rf (hpR σ 321 t)]) rfl rfl ⟨Nat.le_of_ble_eq_true rfl, Nat.le_of_ble_eq_true rfl⟩ (by simp [cat_rf, cat_i, cat_j]) dX10_set_51 ?_
          refine k_aload_n cx 1 dX10_set_54 rfl rfl ?_
          obtain ⟨a17, g18, h⟩ := bind_ok h
          refine q_getR cx fl_X10_19 g18 dX10_set_55 ?_
          refine k_iload_n cx 2 dX10_set_58 rfl rfl ?_
          refine k_iload_n cx 3 dX10_set_59 rfl rfl ?_
          obtain ⟨a19, g20, h⟩ := bind_ok h
          obtain ⟨q21, g22, h⟩ := bind_ok h
          refine k_callV cx iv_X10_158 (ci := 5) rfl (by decide) (w_X5_changeSetting (dn_some g20).2 g22) g20 (As := [.int p1, .int p2]) rfl rfl ⟨Nat.le_of_ble_eq_true rfl, Nat.le_of_ble_eq_true rfl⟩ (by simp [cat_rf, cat_i, cat_j]) dX10_set_60 ?_
          refine k_aload_n cx 1 dX10_set_63 rfl rfl ?_
          obtain ⟨a23, g24, h⟩ := bind_ok h
          obtain ⟨q25, g26, h⟩ := bind_ok h
          refine k_callV cx iv_X10_70 (ci := 10) rfl (by decide) (w_X10_layOut (dn_some g24).2 g26) g24 (As := []) rfl rfl ⟨Nat.le_of_ble_eq_true rfl, Nat.le_of_ble_eq_true rfl⟩ (by simp [cat_rf, cat_i, cat_j]) dX10_set_64 ?_
          refine k_iload_n cx 0 dX10_set_67 rfl rfl ?_
          have h := Option.some.inj h
          exact k_iret cx hr hlk (by rw [← h]) (by rw [← h]) dX10_set_68
        · have h := ite_f h c8
          refine k_bipush cx (-2) dX10_set_31 (by decide) ?_
          have h := Option.some.inj h
          exact k_iret cx hr hlk (by rw [← h]) (by rw [← h]) dX10_set_33
set_option maxRecDepth 100000 in
set_option maxHeartbeats 4000000 in
theorem w_X10_row {Γ : GE} {σ : St} {t : Nat} {p1 : Int32} {p2 : Int32} {ρ : Int32} (hk : hpK σ t = 10) (h : f_X10_row σ t p1 p2 = some ρ) : Ct Γ yX10_row cX10_row 4 (some .int) 1 21 [va_rf (some t), .int p1, .int p2] σ (some (.int ρ)) σ := by
  refine ct_intro (own := RX10) (L0 := [(0, va_rf (some t)), (1, .int p1), (2, .int p2)]) (by decide +kernel) rfl (by simp [lg_sl, cat_rf, cat_i, cat_j]) (by simp [lv_args, cat_rf, cat_i, cat_j]) ?_
  intro p l e s m args below meth c hr hlk hin cx
  have hk0 := dn_eq hk
  unfold f_X10_row at h
  refine k_iload_n cx 1 dX10_row_0 rfl rfl ?_
  refine k_if_lt cx 14 dX10_row_1 (by decide) (fun c1 => ?_) (fun c1 => ?_)
  · have h := ite_t h c1
    refine k_bipush cx (-2) dX10_row_14 (by decide) ?_
    have h := Option.some.inj h
    exact k_iret cx hr hlk (by rw [← h]) rfl dX10_row_16
  · have h := ite_f h c1
    refine k_iload_n cx 2 dX10_row_4 rfl rfl ?_
    refine k_if_lt cx 14 dX10_row_5 (by decide) (fun c2 => ?_) (fun c2 => ?_)
    · have h := ite_t h c2
      refine k_bipush cx (-2) dX10_row_14 (by decide) ?_
      have h := Option.some.inj h
      exact k_iret cx hr hlk (by rw [← h]) rfl dX10_row_16
    · have h := ite_f h c2
      refine k_iload_n cx 2 dX10_row_8 rfl rfl ?_
      refine k_bipush cx 9 dX10_row_9 (by decide) ?_
      refine k_icmp_lt cx 17 dX10_row_11 (by decide) (fun c3 => ?_) (fun c3 => ?_)
      · have h := ite_t h c3
        refine k_aload_n cx 0 dX10_row_17 rfl rfl ?_
        refine q_getR cx fl_X10_33 hk0 dX10_row_18 ?_
        refine k_iload_n cx 1 dX10_row_21 rfl rfl ?_
        obtain ⟨a4, g5, h⟩ := bind_ok h
        obtain ⟨q6, g7, h⟩ := bind_ok h
        refine k_callV cx iv_X10_166 (ci := 1) rfl (by decide) (w_X1_rowAt (dn_some g5).2 g7) g5 (As := [.int p1]) rfl rfl ⟨Nat.le_of_ble_eq_true rfl, Nat.le_of_ble_eq_true rfl⟩ (by simp [cat_rf, cat_i, cat_j]) dX10_row_22 ?_
        refine k_astore_n cx (i := 3) [(3, va_rf q6), (0, va_rf (some t)), (1, .int p1), (2, .int p2)] dX10_row_25 rfl (by decide) (by simp [cat_rf, cat_i, cat_j]) ?_
        refine k_aload_n cx 0 dX10_row_26 rfl rfl ?_
        refine k_ifnonnull cx 32 dX10_row_27 (by decide) (fun c8 => ?_) (fun a31 c8 => ?_)
        · have h := ite_t h c8
          refine k_iconst cx (-1) dX10_row_30 (by decide) ?_
          have h := Option.some.inj h
          exact k_iret cx hr hlk (by rw [← h]) rfl dX10_row_31
        · have h := ite_f h (ne_nn c8)
          refine k_iload_n cx 3 dX10_row_32 rfl rfl ?_
          refine k_switch cx dX10_row_33 (by decide) (fun hs => ?_) (by decide) (fun k off ho hs => ?_)
          · have h0 : ¬ p2 = 0 := fun q => by rw [q] at hs; revert hs; decide
            have h1 : ¬ p2 = 1 := fun q => by rw [q] at hs; revert hs; decide
            have h2 : ¬ p2 = 2 := fun q => by rw [q] at hs; revert hs; decide
            have h3 : ¬ p2 = 3 := fun q => by rw [q] at hs; revert hs; decide
            have h4 : ¬ p2 = 4 := fun q => by rw [q] at hs; revert hs; decide
            have h5 : ¬ p2 = 5 := fun q => by rw [q] at hs; revert hs; decide
            have h6 : ¬ p2 = 6 := fun q => by rw [q] at hs; revert hs; decide
            have h7 : ¬ p2 = 7 := fun q => by rw [q] at hs; revert hs; decide
            have h := ite_f h h0
            have h := ite_f h h1
            have h := ite_f h h2
            have h := ite_f h h3
            have h := ite_f h h4
            have h := ite_f h h5
            have h := ite_f h h6
            have h := ite_f h h7
            refine k_aload_n cx 0 dX10_row_123 rfl rfl ?_
            obtain ⟨a27, g28, h⟩ := bind_ok h
            obtain ⟨q29, g30, h⟩ := bind_ok h
            refine k_callV cx iv_X10_194 (ci := 6) rfl (by decide) (w_X6_end (dn_some g28).2 g30) g28 (As := []) rfl rfl ⟨Nat.le_of_ble_eq_true rfl, Nat.le_of_ble_eq_true rfl⟩ (by simp [cat_rf, cat_i, cat_j]) dX10_row_124 ?_
            have h := Option.some.inj h
            exact k_iret cx hr hlk (by rw [← h]) rfl dX10_row_127
          · match k, ho with
            | 0, ho =>
              cases ho
              have hv : p2 = 0 := Int32.toInt_inj.mp (by rw [hs]; rfl)
              have h := ite_t h hv
              refine ⟨by decide, ?_⟩
              refine k_aload_n cx 0 dX10_row_80 rfl rfl ?_
              obtain ⟨a9, g10, h⟩ := bind_ok h
              refine q_getI cx fl_X10_170 g10 dX10_row_81 ?_
              have h := Option.some.inj h
              exact k_iret cx hr hlk (by rw [← h]) rfl dX10_row_84
            | 1, ho =>
              cases ho
              have hv : p2 = 1 := Int32.toInt_inj.mp (by rw [hs]; rfl)
              have h := ite_f h (show ¬ p2 = 0 from fun q => by rw [hv] at q; revert q; decide)
              have h := ite_t h hv
              refine ⟨by decide, ?_⟩
              refine k_aload_n cx 0 dX10_row_85 rfl rfl ?_
              obtain ⟨a11, g12, h⟩ := bind_ok h
              refine q_getI cx fl_X10_175 g12 dX10_row_86 ?_
              have h := Option.some.inj h
              exact k_iret cx hr hlk (by rw [← h]) rfl dX10_row_89
            | 2, ho =>
              cases ho
              have hv : p2 = 2 := Int32.toInt_inj.mp (by rw [hs]; rfl)
              have h := ite_f h (show ¬ p2 = 0 from fun q => by rw [hv] at q; revert q; decide)
              have h := ite_f h (show ¬ p2 = 1 from fun q => by rw [hv] at q; revert q; decide)
              have h := ite_t h hv
              refine ⟨by decide, ?_⟩
              refine k_aload_n cx 0 dX10_row_90 rfl rfl ?_
              obtain ⟨a13, g14, h⟩ := bind_ok h
              refine q_getI cx fl_X10_178 g14 dX10_row_91 ?_
              have h := Option.some.inj h
              exact k_iret cx hr hlk (by rw [← h]) rfl dX10_row_94
            | 3, ho =>
              cases ho
              have hv : p2 = 3 := Int32.toInt_inj.mp (by rw [hs]; rfl)
              have h := ite_f h (show ¬ p2 = 0 from fun q => by rw [hv] at q; revert q; decide)
              have h := ite_f h (show ¬ p2 = 1 from fun q => by rw [hv] at q; revert q; decide)
              have h := ite_f h (show ¬ p2 = 2 from fun q => by rw [hv] at q; revert q; decide)
              have h := ite_t h hv
              refine ⟨by decide, ?_⟩
              refine k_aload_n cx 0 dX10_row_95 rfl rfl ?_
              obtain ⟨a15, g16, h⟩ := bind_ok h
              refine q_getI cx fl_X10_181 g16 dX10_row_96 ?_
              have h := Option.some.inj h
              exact k_iret cx hr hlk (by rw [← h]) rfl dX10_row_99
            | 4, ho =>
              cases ho
              have hv : p2 = 4 := Int32.toInt_inj.mp (by rw [hs]; rfl)
              have h := ite_f h (show ¬ p2 = 0 from fun q => by rw [hv] at q; revert q; decide)
              have h := ite_f h (show ¬ p2 = 1 from fun q => by rw [hv] at q; revert q; decide)
              have h := ite_f h (show ¬ p2 = 2 from fun q => by rw [hv] at q; revert q; decide)
              have h := ite_f h (show ¬ p2 = 3 from fun q => by rw [hv] at q; revert q; decide)
              have h := ite_t h hv
              refine ⟨by decide, ?_⟩
              refine k_aload_n cx 0 dX10_row_100 rfl rfl ?_
              obtain ⟨a17, g18, h⟩ := bind_ok h
              refine q_getI cx fl_X10_184 g18 dX10_row_101 ?_
              have h := Option.some.inj h
              exact k_iret cx hr hlk (by rw [← h]) rfl dX10_row_104
            | 5, ho =>
              cases ho
              have hv : p2 = 5 := Int32.toInt_inj.mp (by rw [hs]; rfl)
              have h := ite_f h (show ¬ p2 = 0 from fun q => by rw [hv] at q; revert q; decide)
              have h := ite_f h (show ¬ p2 = 1 from fun q => by rw [hv] at q; revert q; decide)
              have h := ite_f h (show ¬ p2 = 2 from fun q => by rw [hv] at q; revert q; decide)
              have h := ite_f h (show ¬ p2 = 3 from fun q => by rw [hv] at q; revert q; decide)
              have h := ite_f h (show ¬ p2 = 4 from fun q => by rw [hv] at q; revert q; decide)
              have h := ite_t h hv
              refine ⟨by decide, ?_⟩
              refine k_aload_n cx 0 dX10_row_105 rfl rfl ?_
              obtain ⟨a19, g20, h⟩ := bind_ok h
              refine q_getI cx fl_X10_187 g20 dX10_row_106 ?_
              have h := Option.some.inj h
              exact k_iret cx hr hlk (by rw [← h]) rfl dX10_row_109
            | 6, ho =>
              cases ho
              have hv : p2 = 6 := Int32.toInt_inj.mp (by rw [hs]; rfl)
              have h := ite_f h (show ¬ p2 = 0 from fun q => by rw [hv] at q; revert q; decide)
              have h := ite_f h (show ¬ p2 = 1 from fun q => by rw [hv] at q; revert q; decide)
              have h := ite_f h (show ¬ p2 = 2 from fun q => by rw [hv] at q; revert q; decide)
              have h := ite_f h (show ¬ p2 = 3 from fun q => by rw [hv] at q; revert q; decide)
              have h := ite_f h (show ¬ p2 = 4 from fun q => by rw [hv] at q; revert q; decide)
              have h := ite_f h (show ¬ p2 = 5 from fun q => by rw [hv] at q; revert q; decide)
              have h := ite_t h hv
              refine ⟨by decide, ?_⟩
              refine k_aload_n cx 0 dX10_row_110 rfl rfl ?_
              obtain ⟨a21, g22, h⟩ := bind_ok h
              refine q_getI cx fl_X10_188 g22 dX10_row_111 ?_
              have h := Option.some.inj h
              exact k_iret cx hr hlk (by rw [← h]) rfl dX10_row_114
            | 7, ho =>
              cases ho
              have hv : p2 = 7 := Int32.toInt_inj.mp (by rw [hs]; rfl)
              have h := ite_f h (show ¬ p2 = 0 from fun q => by rw [hv] at q; revert q; decide)
              have h := ite_f h (show ¬ p2 = 1 from fun q => by rw [hv] at q; revert q; decide)
              have h := ite_f h (show ¬ p2 = 2 from fun q => by rw [hv] at q; revert q; decide)
              have h := ite_f h (show ¬ p2 = 3 from fun q => by rw [hv] at q; revert q; decide)
              have h := ite_f h (show ¬ p2 = 4 from fun q => by rw [hv] at q; revert q; decide)
              have h := ite_f h (show ¬ p2 = 5 from fun q => by rw [hv] at q; revert q; decide)
              have h := ite_f h (show ¬ p2 = 6 from fun q => by rw [hv] at q; revert q; decide)
              have h := ite_t h hv
              refine ⟨by decide, ?_⟩
              refine k_aload_n cx 0 dX10_row_115 rfl rfl ?_
              obtain ⟨a23, g24, h⟩ := bind_ok h
              refine q_getI cx fl_X10_191 g24 dX10_row_116 ?_
              obtain ⟨q25, g26, h⟩ := bind_ok h
              refine k_callS cx iv_X10_112 (w_X10_oneIf g26) (As := [.int (hpI σ 200 a23)]) rfl rfl ⟨Nat.le_of_ble_eq_true rfl, Nat.le_of_ble_eq_true rfl⟩ (by simp [cat_rf, cat_i, cat_j]) dX10_row_119 ?_
              have h := Option.some.inj h
              exact k_iret cx hr hlk (by rw [← h]) rfl dX10_row_122
            | k + 8, ho => exact absurd ho (by simp)
      · have h := ite_f h c3
        refine k_bipush cx (-2) dX10_row_14 (by decide) ?_
        have h := Option.some.inj h
        exact k_iret cx hr hlk (by rw [← h]) rfl dX10_row_16
set_option maxRecDepth 100000 in
set_option maxHeartbeats 4000000 in
theorem w_X10_byteInRow {Γ : GE} {σ : St} {t : Nat} {p1 : Option Nat} {p2 : Int32} {ρ : Int32} (hk : hpK σ t = 10) (h : f_X10_byteInRow σ t p1 p2 = some ρ) : Ct Γ yX10_byteInRow cX10_byteInRow 4 (some .int) 1 21 [va_rf (some t), va_rf p1, .int p2] σ (some (.int ρ)) σ := by
  refine ct_intro (own := RX10) (L0 := [(0, va_rf (some t)), (1, va_rf p1), (2, .int p2)]) (by decide +kernel) rfl (by simp [lg_sl, cat_rf, cat_i, cat_j]) (by simp [lv_args, cat_rf, cat_i, cat_j]) ?_
  intro p l e s m args below meth c hr hlk hin cx
  have hk0 := dn_eq hk
  unfold f_X10_byteInRow at h
  refine k_aload_n cx 1 dX10_byteInRow_0 rfl rfl ?_
  refine k_ifnull cx 20 dX10_byteInRow_1 (by decide) (fun c1 => ?_) (fun a20 c1 => ?_)
  · have h := ite_t h c1
    refine k_bipush cx 32 dX10_byteInRow_20 (by decide) ?_
    have h := Option.some.inj h
    exact k_iret cx hr hlk (by rw [← h]) rfl dX10_byteInRow_22
  · have h := ite_f h (ne_nn c1)
    refine k_iload_n cx 2 dX10_byteInRow_4 rfl rfl ?_
    refine k_aload_n cx 1 dX10_byteInRow_5 rfl rfl ?_
    obtain ⟨a2, g3, h⟩ := bind_ok h
    refine q_getI cx fl_X10_184 g3 dX10_byteInRow_6 ?_
    refine k_icmp_lt cx 20 dX10_byteInRow_9 (by decide) (fun c4 => ?_) (fun c4 => ?_)
    · have h := ite_t h c4
      refine k_bipush cx 32 dX10_byteInRow_20 (by decide) ?_
      have h := Option.some.inj h
      exact k_iret cx hr hlk (by rw [← h]) rfl dX10_byteInRow_22
    · have h := ite_f h c4
      refine k_iload_n cx 2 dX10_byteInRow_12 rfl rfl ?_
      refine k_aload_n cx 1 dX10_byteInRow_13 rfl rfl ?_
      obtain ⟨q5, g6, h⟩ := bind_ok h
      refine k_callV cx iv_X10_194 (ci := 6) rfl (by decide) (w_X6_end (dn_some g3).2 g6) g3 (As := []) rfl rfl ⟨Nat.le_of_ble_eq_true rfl, Nat.le_of_ble_eq_true rfl⟩ (by simp [cat_rf, cat_i, cat_j]) dX10_byteInRow_14 ?_
      refine k_icmp_lt cx 23 dX10_byteInRow_17 (by decide) (fun c7 => ?_) (fun c7 => ?_)
      · have h := ite_t h c7
        refine k_aload_n cx 0 dX10_byteInRow_23 rfl rfl ?_
        refine q_getR cx fl_X10_19 hk0 dX10_byteInRow_24 ?_
        refine k_aload_n cx 1 dX10_byteInRow_27 rfl rfl ?_
        refine q_getI cx fl_X10_170 g3 dX10_byteInRow_28 ?_
        obtain ⟨a8, g9, h⟩ := bind_ok h
        obtain ⟨q10, g11, h⟩ := bind_ok h
        refine k_callV cx iv_X10_73 (ci := 5) rfl (by decide) (w_X5_lineAt (dn_some g9).2 g11) g9 (As := [.int (hpI σ 192 a2)]) rfl rfl ⟨Nat.le_of_ble_eq_true rfl, Nat.le_of_ble_eq_true rfl⟩ (by simp [cat_rf, cat_i, cat_j]) dX10_byteInRow_31 ?_
        refine k_astore_n cx (i := 3) [(3, va_rf q10), (0, va_rf (some t)), (1, va_rf p1), (2, .int p2)] dX10_byteInRow_34 rfl (by decide) (by simp [cat_rf, cat_i, cat_j]) ?_
        refine k_aload_n cx 0 dX10_byteInRow_35 rfl rfl ?_
        refine k_ifnonnull cx 44 dX10_byteInRow_36 (by decide) (fun c12 => ?_) (fun a19 c12 => ?_)
        · have h := ite_t h c12
          refine k_bipush cx 32 dX10_byteInRow_39 (by decide) ?_
          refine k_goto cx 62 dX10_byteInRow_41 (by decide) ?_
          have h := Option.some.inj h
          exact k_iret cx hr hlk (by rw [← h]) rfl dX10_byteInRow_62
        · have h := ite_f h (ne_nn c12)
          refine k_aload_n cx 0 dX10_byteInRow_44 rfl rfl ?_
          obtain ⟨a13, g14, h⟩ := bind_ok h
          refine q_getR cx fl_X10_80 g14 dX10_byteInRow_45 ?_
          refine k_aload_n cx 2 dX10_byteInRow_48 rfl rfl ?_
          refine q_getI cx fl_X10_293 g3 dX10_byteInRow_49 ?_
          refine k_iload_n cx 3 dX10_byteInRow_52 rfl rfl ?_
          refine k_iadd cx dX10_byteInRow_53 ?_
          refine k_aload_n cx 2 dX10_byteInRow_54 rfl rfl ?_
          refine q_getI cx fl_X10_184 g3 dX10_byteInRow_55 ?_
          refine k_isub cx dX10_byteInRow_58 ?_
          obtain ⟨a15, g16, h⟩ := bind_ok h
          obtain ⟨q17, g18, h⟩ := bind_ok h
          refine k_callV cx iv_X10_140 (ci := 9) rfl (by decide) (w_X9_byteAt (dn_some g16).2 g18) g16 (As := [.int (((hpI σ 197 a2) + p2) - (hpI σ 196 a2))]) rfl rfl ⟨Nat.le_of_ble_eq_true rfl, Nat.le_of_ble_eq_true rfl⟩ (by simp [cat_rf, cat_i, cat_j]) dX10_byteInRow_59 ?_
          have h := Option.some.inj h
          exact k_iret cx hr hlk (by rw [← h]) rfl dX10_byteInRow_62
      · have h := ite_f h c7
        refine k_bipush cx 32 dX10_byteInRow_20 (by decide) ?_
        have h := Option.some.inj h
        exact k_iret cx hr hlk (by rw [← h]) rfl dX10_byteInRow_22
set_option maxRecDepth 100000 in
set_option maxHeartbeats 4000000 in
theorem w_X10_at {Γ : GE} {σ : St} {t : Nat} {p1 : Int32} {p2 : Int32} {p3 : Int32} {ρ : Int32} (hk : hpK σ t = 10) (h : f_X10_at σ t p1 p2 p3 = some ρ) : Ct Γ yX10_at cX10_at 5 (some .int) 2 45 [va_rf (some t), .int p1, .int p2, .int p3] σ (some (.int ρ)) σ := by
  refine ct_intro (own := RX10) (L0 := [(0, va_rf (some t)), (1, .int p1), (2, .int p2), (3, .int p3)]) (by decide +kernel) rfl (by simp [lg_sl, cat_rf, cat_i, cat_j]) (by simp [lv_args, cat_rf, cat_i, cat_j]) ?_
  intro p l e s m args below meth c hr hlk hin cx
  have hk0 := dn_eq hk
  unfold f_X10_at at h
  refine k_aload_n cx 0 dX10_at_0 rfl rfl ?_
  refine q_getR cx fl_X10_33 hk0 dX10_at_1 ?_
  refine k_iload_n cx 1 dX10_at_4 rfl rfl ?_
  obtain ⟨a1, g2, h⟩ := bind_ok h
  obtain ⟨q3, g4, h⟩ := bind_ok h
  refine k_callV cx iv_X10_197 (ci := 1) rfl (by decide) (w_X1_pageAt (dn_some g2).2 g4) g2 (As := [.int p1]) rfl rfl ⟨Nat.le_of_ble_eq_true rfl, Nat.le_of_ble_eq_true rfl⟩ (by simp [cat_rf, cat_i, cat_j]) dX10_at_5 ?_
  refine k_astore cx [(4, va_rf q3), (0, va_rf (some t)), (1, .int p1), (2, .int p2), (3, .int p3)] dX10_at_8 (by decide) (by simp [cat_rf, cat_i, cat_j]) ?_
  refine k_aload cx 0 dX10_at_10 rfl ?_
  refine k_ifnull cx 31 dX10_at_12 (by decide) (fun c5 => ?_) (fun a20 c5 => ?_)
  · have h := ite_t h c5
    refine k_bipush cx (-2) dX10_at_31 (by decide) ?_
    have h := Option.some.inj h
    exact k_iret cx hr hlk (by rw [← h]) rfl dX10_at_33
  · have h := ite_f h (ne_nn c5)
    refine k_iload_n cx 3 dX10_at_15 rfl rfl ?_
    refine k_if_lt cx 31 dX10_at_16 (by decide) (fun c6 => ?_) (fun c6 => ?_)
    · have h := ite_t h c6
      refine k_bipush cx (-2) dX10_at_31 (by decide) ?_
      have h := Option.some.inj h
      exact k_iret cx hr hlk (by rw [← h]) rfl dX10_at_33
    · have h := ite_f h c6
      refine k_iload_n cx 3 dX10_at_19 rfl rfl ?_
      refine k_aload_n cx 1 dX10_at_20 rfl rfl ?_
      refine q_getR cx fl_X10_19 hk0 dX10_at_21 ?_
      refine k_iconst cx 1 dX10_at_24 (by decide) ?_
      obtain ⟨a7, g8, h⟩ := bind_ok h
      obtain ⟨q9, g10, h⟩ := bind_ok h
      refine k_callV cx iv_X10_155 (ci := 5) rfl (by decide) (w_X5_setting (dn_some g8).2 g10) g8 (As := [.int 1]) rfl rfl ⟨Nat.le_of_ble_eq_true rfl, Nat.le_of_ble_eq_true rfl⟩ (by simp [cat_rf, cat_i, cat_j]) dX10_at_25 ?_
      refine k_icmp_lt cx 34 dX10_at_28 (by decide) (fun c11 => ?_) (fun c11 => ?_)
      · have h := ite_t h c11
        refine k_iload_n cx 4 dX10_at_34 rfl rfl ?_
        refine k_if_lt cx 50 dX10_at_35 (by decide) (fun c12 => ?_) (fun c12 => ?_)
        · have h := ite_t h c12
          refine k_bipush cx (-2) dX10_at_50 (by decide) ?_
          have h := Option.some.inj h
          exact k_iret cx hr hlk (by rw [← h]) rfl dX10_at_52
        · have h := ite_f h c12
          refine k_iload_n cx 4 dX10_at_38 rfl rfl ?_
          refine k_aload_n cx 1 dX10_at_39 rfl rfl ?_
          refine q_getR cx fl_X10_19 hk0 dX10_at_40 ?_
          refine k_iconst cx 0 dX10_at_43 (by decide) ?_
          obtain ⟨q13, g14, h⟩ := bind_ok h
          refine k_callV cx iv_X10_155 (ci := 5) rfl (by decide) (w_X5_setting (dn_some g8).2 g14) g8 (As := [.int 0]) rfl rfl ⟨Nat.le_of_ble_eq_true rfl, Nat.le_of_ble_eq_true rfl⟩ (by simp [cat_rf, cat_i, cat_j]) dX10_at_44 ?_
          refine k_icmp_lt cx 53 dX10_at_47 (by decide) (fun c15 => ?_) (fun c15 => ?_)
          · have h := ite_t h c15
            refine k_aload_n cx 1 dX10_at_53 rfl rfl ?_
            refine k_aload_n cx 1 dX10_at_54 rfl rfl ?_
            refine q_getR cx fl_X10_33 hk0 dX10_at_55 ?_
            refine k_aload cx 0 dX10_at_58 rfl ?_
            refine k_iload_n cx 3 dX10_at_60 rfl rfl ?_
            obtain ⟨q16, g17, h⟩ := bind_ok h
            refine k_callV cx iv_X10_201 (ci := 1) rfl (by decide) (w_X1_rowAtPlace (dn_some g2).2 g17) g2 (As := [va_rf q3, .int p2]) rfl rfl ⟨Nat.le_of_ble_eq_true rfl, Nat.le_of_ble_eq_true rfl⟩ (by simp [cat_rf, cat_i, cat_j]) dX10_at_61 ?_
            refine k_iload_n cx 4 dX10_at_64 rfl rfl ?_
            obtain ⟨q18, g19, h⟩ := bind_ok h
            refine k_callV cx iv_X10_205 (ci := 10) rfl (by decide) (w_X10_byteInRow (dn_some hk0).2 g19) hk0 (As := [va_rf q16, .int p3]) rfl rfl ⟨Nat.le_of_ble_eq_true rfl, Nat.le_of_ble_eq_true rfl⟩ (by simp [cat_rf, cat_i, cat_j]) dX10_at_65 ?_
            have h := Option.some.inj h
            exact k_iret cx hr hlk (by rw [← h]) rfl dX10_at_68
          · have h := ite_f h c15
            refine k_bipush cx (-2) dX10_at_50 (by decide) ?_
            have h := Option.some.inj h
            exact k_iret cx hr hlk (by rw [← h]) rfl dX10_at_52
      · have h := ite_f h c11
        refine k_bipush cx (-2) dX10_at_31 (by decide) ?_
        have h := Option.some.inj h
        exact k_iret cx hr hlk (by rw [← h]) rfl dX10_at_33
set_option maxRecDepth 100000 in
set_option maxHeartbeats 4000000 in
theorem w_X10_countedSetting {Γ : GE} {σ : St} {t : Nat} {p1 : Int32} {p2 : Int32} {ρ : Int32} (hk : hpK σ t = 10) (h : f_X10_countedSetting σ t p1 p2 = some ρ) : Ct Γ yX10_countedSetting cX10_countedSetting 3 (some .int) 2 42 [va_rf (some t), .int p1, .int p2] σ (some (.int ρ)) σ := by
  refine ct_intro (own := RX10) (L0 := [(0, va_rf (some t)), (1, .int p1), (2, .int p2)]) (by decide +kernel) rfl (by simp [lg_sl, cat_rf, cat_i, cat_j]) (by simp [lv_args, cat_rf, cat_i, cat_j]) ?_
  intro p l e s m args below meth c hr hlk hin cx
  have hk0 := dn_eq hk
  unfold f_X10_countedSetting at h
  refine k_iload_n cx 2 dX10_countedSetting_0 rfl rfl ?_
  refine k_bipush cx 11 dX10_countedSetting_1 (by decide) ?_
  refine k_icmp_lt cx 12 dX10_countedSetting_3 (by decide) (fun c1 => ?_) (fun c1 => ?_)
  · have h := ite_t h c1
    refine k_bipush cx (-2) dX10_countedSetting_12 (by decide) ?_
    refine k_goto cx 25 dX10_countedSetting_14 (by decide) ?_
    have h := Option.some.inj h
    exact k_iret cx hr hlk (by rw [← h]) rfl dX10_countedSetting_25
  · have h := ite_f h c1
    refine k_iload_n cx 2 dX10_countedSetting_6 rfl rfl ?_
    refine k_bipush cx 16 dX10_countedSetting_7 (by decide) ?_
    refine k_icmp_lt cx 17 dX10_countedSetting_9 (by decide) (fun c2 => ?_) (fun c2 => ?_)
    · have h := ite_t h c2
      refine k_aload_n cx 0 dX10_countedSetting_17 rfl rfl ?_
      refine q_getR cx fl_X10_19 hk0 dX10_countedSetting_18 ?_
      refine k_iload_n cx 1 dX10_countedSetting_21 rfl rfl ?_
      obtain ⟨a3, g4, h⟩ := bind_ok h
      obtain ⟨q5, g6, h⟩ := bind_ok h
      refine k_callV cx iv_X10_155 (ci := 5) rfl (by decide) (w_X5_setting (dn_some g4).2 g6) g4 (As := [.int p1]) rfl rfl ⟨Nat.le_of_ble_eq_true rfl, Nat.le_of_ble_eq_true rfl⟩ (by simp [cat_rf, cat_i, cat_j]) dX10_countedSetting_22 ?_
      have h := Option.some.inj h
      exact k_iret cx hr hlk (by rw [← h]) rfl dX10_countedSetting_25
    · have h := ite_f h c2
      refine k_bipush cx (-2) dX10_countedSetting_12 (by decide) ?_
      refine k_goto cx 25 dX10_countedSetting_14 (by decide) ?_
      have h := Option.some.inj h
      exact k_iret cx hr hlk (by rw [← h]) rfl dX10_countedSetting_25
set_option maxRecDepth 100000 in
set_option maxHeartbeats 4000000 in
theorem w_X10_count {Γ : GE} {σ : St} {t : Nat} {p1 : Int32} {ρ : Int32} (hk : hpK σ t = 10) (h : f_X10_count σ t p1 = some ρ) : Ct Γ yX10_count cX10_count 2 (some .int) 3 67 [va_rf (some t), .int p1] σ (some (.int ρ)) σ := by
  refine ct_intro (own := RX10) (L0 := [(0, va_rf (some t)), (1, .int p1)]) (by decide +kernel) rfl (by simp [lg_sl, cat_rf, cat_i, cat_j]) (by simp [lv_args, cat_rf, cat_i, cat_j]) ?_
  intro p l e s m args below meth c hr hlk hin cx
  have hk0 := dn_eq hk
  unfold f_X10_count at h
  refine k_iload_n cx 1 dX10_count_0 rfl rfl ?_
  refine k_switch cx dX10_count_1 (by decide) (fun hs => ?_) (by decide) (fun k off ho hs => ?_)
  · have h0 : ¬ p1 = 0 := fun q => by rw [q] at hs; revert hs; decide
    have h1 : ¬ p1 = 1 := fun q => by rw [q] at hs; revert hs; decide
    have h2 : ¬ p1 = 2 := fun q => by rw [q] at hs; revert hs; decide
    have h3 : ¬ p1 = 3 := fun q => by rw [q] at hs; revert hs; decide
    have h4 : ¬ p1 = 4 := fun q => by rw [q] at hs; revert hs; decide
    have h5 : ¬ p1 = 5 := fun q => by rw [q] at hs; revert hs; decide
    have h6 : ¬ p1 = 6 := fun q => by rw [q] at hs; revert hs; decide
    have h7 : ¬ p1 = 7 := fun q => by rw [q] at hs; revert hs; decide
    have h8 : ¬ p1 = 8 := fun q => by rw [q] at hs; revert hs; decide
    have h9 : ¬ p1 = 9 := fun q => by rw [q] at hs; revert hs; decide
    have h10 : ¬ p1 = 10 := fun q => by rw [q] at hs; revert hs; decide
    have h := ite_f h h0
    have h := ite_f h h1
    have h := ite_f h h2
    have h := ite_f h h3
    have h := ite_f h h4
    have h := ite_f h h5
    have h := ite_f h h6
    have h := ite_f h h7
    have h := ite_f h h8
    have h := ite_f h h9
    have h := ite_f h h10
    refine k_aload_n cx 0 dX10_count_156 rfl rfl ?_
    refine k_iload_n cx 1 dX10_count_157 rfl rfl ?_
    refine k_bipush cx 11 dX10_count_158 (by decide) ?_
    refine k_isub cx dX10_count_160 ?_
    refine k_iload_n cx 1 dX10_count_161 rfl rfl ?_
    obtain ⟨q33, g34, h⟩ := bind_ok h
    refine k_callV cx iv_X10_265 (ci := 10) rfl (by decide) (w_X10_countedSetting (dn_some hk0).2 g34) hk0 (As := [.int (p1 - 11), .int p1]) rfl rfl ⟨Nat.le_of_ble_eq_true rfl, Nat.le_of_ble_eq_true rfl⟩ (by simp [cat_rf, cat_i, cat_j]) dX10_count_162 ?_
    have h := Option.some.inj h
    exact k_iret cx hr hlk (by rw [← h]) rfl dX10_count_165
  · match k, ho with
    | 0, ho =>
      cases ho
      have hv : p1 = 0 := Int32.toInt_inj.mp (by rw [hs]; rfl)
      have h := ite_t h hv
      refine ⟨by decide, ?_⟩
      refine k_aload_n cx 0 dX10_count_60 rfl rfl ?_
      refine q_getR cx fl_X10_19 hk0 dX10_count_61 ?_
      obtain ⟨a1, g2, h⟩ := bind_ok h
      refine q_getI cx fl_X10_55 g2 dX10_count_64 ?_
      have h := Option.some.inj h
      exact k_iret cx hr hlk (by rw [← h]) rfl dX10_count_67
    | 1, ho =>
      cases ho
      have hv : p1 = 1 := Int32.toInt_inj.mp (by rw [hs]; rfl)
      have h := ite_f h (show ¬ p1 = 0 from fun q => by rw [hv] at q; revert q; decide)
      have h := ite_t h hv
      refine ⟨by decide, ?_⟩
      refine k_aload_n cx 0 dX10_count_68 rfl rfl ?_
      refine q_getR cx fl_X10_33 hk0 dX10_count_69 ?_
      obtain ⟨a3, g4, h⟩ := bind_ok h
      refine q_getI cx fl_X10_96 g4 dX10_count_72 ?_
      have h := Option.some.inj h
      exact k_iret cx hr hlk (by rw [← h]) rfl dX10_count_75
    | 2, ho =>
      cases ho
      have hv : p1 = 2 := Int32.toInt_inj.mp (by rw [hs]; rfl)
      have h := ite_f h (show ¬ p1 = 0 from fun q => by rw [hv] at q; revert q; decide)
      have h := ite_f h (show ¬ p1 = 1 from fun q => by rw [hv] at q; revert q; decide)
      have h := ite_t h hv
      refine ⟨by decide, ?_⟩
      refine k_aload_n cx 0 dX10_count_76 rfl rfl ?_
      refine q_getR cx fl_X10_33 hk0 dX10_count_77 ?_
      obtain ⟨a5, g6, h⟩ := bind_ok h
      refine q_getI cx fl_X10_247 g6 dX10_count_80 ?_
      have h := Option.some.inj h
      exact k_iret cx hr hlk (by rw [← h]) rfl dX10_count_83
    | 3, ho =>
      cases ho
      have hv : p1 = 3 := Int32.toInt_inj.mp (by rw [hs]; rfl)
      have h := ite_f h (show ¬ p1 = 0 from fun q => by rw [hv] at q; revert q; decide)
      have h := ite_f h (show ¬ p1 = 1 from fun q => by rw [hv] at q; revert q; decide)
      have h := ite_f h (show ¬ p1 = 2 from fun q => by rw [hv] at q; revert q; decide)
      have h := ite_t h hv
      refine ⟨by decide, ?_⟩
      refine k_aload_n cx 0 dX10_count_84 rfl rfl ?_
      refine q_getR cx fl_X10_33 hk0 dX10_count_85 ?_
      obtain ⟨a7, g8, h⟩ := bind_ok h
      refine q_getI cx fl_X10_244 g8 dX10_count_88 ?_
      have h := Option.some.inj h
      exact k_iret cx hr hlk (by rw [← h]) rfl dX10_count_91
    | 4, ho =>
      cases ho
      have hv : p1 = 4 := Int32.toInt_inj.mp (by rw [hs]; rfl)
      have h := ite_f h (show ¬ p1 = 0 from fun q => by rw [hv] at q; revert q; decide)
      have h := ite_f h (show ¬ p1 = 1 from fun q => by rw [hv] at q; revert q; decide)
      have h := ite_f h (show ¬ p1 = 2 from fun q => by rw [hv] at q; revert q; decide)
      have h := ite_f h (show ¬ p1 = 3 from fun q => by rw [hv] at q; revert q; decide)
      have h := ite_t h hv
      refine ⟨by decide, ?_⟩
      refine k_aload_n cx 0 dX10_count_92 rfl rfl ?_
      refine q_getR cx fl_X10_33 hk0 dX10_count_93 ?_
      obtain ⟨a9, g10, h⟩ := bind_ok h
      obtain ⟨q11, g12, h⟩ := bind_ok h
      refine k_callV cx iv_X10_250 (ci := 1) rfl (by decide) (w_X1_runOvers (dn_some g10).2 g12) g10 (As := []) rfl rfl ⟨Nat.le_of_ble_eq_true rfl, Nat.le_of_ble_eq_true rfl⟩ (by simp [cat_rf, cat_i, cat_j]) dX10_count_96 ?_
      have h := Option.some.inj h
      exact k_iret cx hr hlk (by rw [← h]) rfl dX10_count_99
    | 5, ho =>
      cases ho
      have hv : p1 = 5 := Int32.toInt_inj.mp (by rw [hs]; rfl)
      have h := ite_f h (show ¬ p1 = 0 from fun q => by rw [hv] at q; revert q; decide)
      have h := ite_f h (show ¬ p1 = 1 from fun q => by rw [hv] at q; revert q; decide)
      have h := ite_f h (show ¬ p1 = 2 from fun q => by rw [hv] at q; revert q; decide)
      have h := ite_f h (show ¬ p1 = 3 from fun q => by rw [hv] at q; revert q; decide)
      have h := ite_f h (show ¬ p1 = 4 from fun q => by rw [hv] at q; revert q; decide)
      have h := ite_t h hv
      refine ⟨by decide, ?_⟩
      refine k_aload_n cx 0 dX10_count_100 rfl rfl ?_
      refine q_getR cx fl_X10_33 hk0 dX10_count_101 ?_
      obtain ⟨a13, g14, h⟩ := bind_ok h
      obtain ⟨q15, g16, h⟩ := bind_ok h
      refine k_callV cx iv_X10_253 (ci := 1) rfl (by decide) (w_X1_cuts (dn_some g14).2 g16) g14 (As := []) rfl rfl ⟨Nat.le_of_ble_eq_true rfl, Nat.le_of_ble_eq_true rfl⟩ (by simp [cat_rf, cat_i, cat_j]) dX10_count_104 ?_
      have h := Option.some.inj h
      exact k_iret cx hr hlk (by rw [← h]) rfl dX10_count_107
    | 6, ho =>
      cases ho
      have hv : p1 = 6 := Int32.toInt_inj.mp (by rw [hs]; rfl)
      have h := ite_f h (show ¬ p1 = 0 from fun q => by rw [hv] at q; revert q; decide)
      have h := ite_f h (show ¬ p1 = 1 from fun q => by rw [hv] at q; revert q; decide)
      have h := ite_f h (show ¬ p1 = 2 from fun q => by rw [hv] at q; revert q; decide)
      have h := ite_f h (show ¬ p1 = 3 from fun q => by rw [hv] at q; revert q; decide)
      have h := ite_f h (show ¬ p1 = 4 from fun q => by rw [hv] at q; revert q; decide)
      have h := ite_f h (show ¬ p1 = 5 from fun q => by rw [hv] at q; revert q; decide)
      have h := ite_t h hv
      refine ⟨by decide, ?_⟩
      refine k_aload_n cx 0 dX10_count_108 rfl rfl ?_
      refine q_getR cx fl_X10_33 hk0 dX10_count_109 ?_
      obtain ⟨a17, g18, h⟩ := bind_ok h
      obtain ⟨q19, g20, h⟩ := bind_ok h
      refine k_callV cx iv_X10_256 (ci := 1) rfl (by decide) (w_X1_markedPages (dn_some g18).2 g20) g18 (As := []) rfl rfl ⟨Nat.le_of_ble_eq_true rfl, Nat.le_of_ble_eq_true rfl⟩ (by simp [cat_rf, cat_i, cat_j]) dX10_count_112 ?_
      have h := Option.some.inj h
      exact k_iret cx hr hlk (by rw [← h]) rfl dX10_count_115
    | 7, ho =>
      cases ho
      have hv : p1 = 7 := Int32.toInt_inj.mp (by rw [hs]; rfl)
      have h := ite_f h (show ¬ p1 = 0 from fun q => by rw [hv] at q; revert q; decide)
      have h := ite_f h (show ¬ p1 = 1 from fun q => by rw [hv] at q; revert q; decide)
      have h := ite_f h (show ¬ p1 = 2 from fun q => by rw [hv] at q; revert q; decide)
      have h := ite_f h (show ¬ p1 = 3 from fun q => by rw [hv] at q; revert q; decide)
      have h := ite_f h (show ¬ p1 = 4 from fun q => by rw [hv] at q; revert q; decide)
      have h := ite_f h (show ¬ p1 = 5 from fun q => by rw [hv] at q; revert q; decide)
      have h := ite_f h (show ¬ p1 = 6 from fun q => by rw [hv] at q; revert q; decide)
      have h := ite_t h hv
      refine ⟨by decide, ?_⟩
      refine k_aload_n cx 0 dX10_count_116 rfl rfl ?_
      refine q_getR cx fl_X10_33 hk0 dX10_count_117 ?_
      obtain ⟨a21, g22, h⟩ := bind_ok h
      obtain ⟨q23, g24, h⟩ := bind_ok h
      refine k_callV cx iv_X10_259 (ci := 1) rfl (by decide) (w_X1_lastNumber (dn_some g22).2 g24) g22 (As := []) rfl rfl ⟨Nat.le_of_ble_eq_true rfl, Nat.le_of_ble_eq_true rfl⟩ (by simp [cat_rf, cat_i, cat_j]) dX10_count_120 ?_
      have h := Option.some.inj h
      exact k_iret cx hr hlk (by rw [← h]) rfl dX10_count_123
    | 8, ho =>
      cases ho
      have hv : p1 = 8 := Int32.toInt_inj.mp (by rw [hs]; rfl)
      have h := ite_f h (show ¬ p1 = 0 from fun q => by rw [hv] at q; revert q; decide)
      have h := ite_f h (show ¬ p1 = 1 from fun q => by rw [hv] at q; revert q; decide)
      have h := ite_f h (show ¬ p1 = 2 from fun q => by rw [hv] at q; revert q; decide)
      have h := ite_f h (show ¬ p1 = 3 from fun q => by rw [hv] at q; revert q; decide)
      have h := ite_f h (show ¬ p1 = 4 from fun q => by rw [hv] at q; revert q; decide)
      have h := ite_f h (show ¬ p1 = 5 from fun q => by rw [hv] at q; revert q; decide)
      have h := ite_f h (show ¬ p1 = 6 from fun q => by rw [hv] at q; revert q; decide)
      have h := ite_f h (show ¬ p1 = 7 from fun q => by rw [hv] at q; revert q; decide)
      have h := ite_t h hv
      refine ⟨by decide, ?_⟩
      refine k_aload_n cx 0 dX10_count_124 rfl rfl ?_
      refine q_getR cx fl_X10_33 hk0 dX10_count_125 ?_
      refine k_iconst cx 0 dX10_count_128 (by decide) ?_
      refine k_aload_n cx 0 dX10_count_129 rfl rfl ?_
      refine q_getR cx fl_X10_33 hk0 dX10_count_130 ?_
      obtain ⟨a25, g26, h⟩ := bind_ok h
      refine q_getI cx fl_X10_247 g26 dX10_count_133 ?_
      obtain ⟨q27, g28, h⟩ := bind_ok h
      refine k_callV cx iv_X10_262 (ci := 1) rfl (by decide) (w_X1_greatestWidth (dn_some g26).2 g28) g26 (As := [.int 0, .int (hpI σ 36 a25)]) rfl rfl ⟨Nat.le_of_ble_eq_true rfl, Nat.le_of_ble_eq_true rfl⟩ (by simp [cat_rf, cat_i, cat_j]) dX10_count_136 ?_
      have h := Option.some.inj h
      exact k_iret cx hr hlk (by rw [← h]) rfl dX10_count_139
    | 9, ho =>
      cases ho
      have hv : p1 = 9 := Int32.toInt_inj.mp (by rw [hs]; rfl)
      have h := ite_f h (show ¬ p1 = 0 from fun q => by rw [hv] at q; revert q; decide)
      have h := ite_f h (show ¬ p1 = 1 from fun q => by rw [hv] at q; revert q; decide)
      have h := ite_f h (show ¬ p1 = 2 from fun q => by rw [hv] at q; revert q; decide)
      have h := ite_f h (show ¬ p1 = 3 from fun q => by rw [hv] at q; revert q; decide)
      have h := ite_f h (show ¬ p1 = 4 from fun q => by rw [hv] at q; revert q; decide)
      have h := ite_f h (show ¬ p1 = 5 from fun q => by rw [hv] at q; revert q; decide)
      have h := ite_f h (show ¬ p1 = 6 from fun q => by rw [hv] at q; revert q; decide)
      have h := ite_f h (show ¬ p1 = 7 from fun q => by rw [hv] at q; revert q; decide)
      have h := ite_f h (show ¬ p1 = 8 from fun q => by rw [hv] at q; revert q; decide)
      have h := ite_t h hv
      refine ⟨by decide, ?_⟩
      refine k_aload_n cx 0 dX10_count_140 rfl rfl ?_
      refine q_getR cx fl_X10_26 hk0 dX10_count_141 ?_
      obtain ⟨a29, g30, h⟩ := bind_ok h
      refine q_getI cx fl_X10_162 g30 dX10_count_144 ?_
      have h := Option.some.inj h
      exact k_iret cx hr hlk (by rw [← h]) rfl dX10_count_147
    | 10, ho =>
      cases ho
      have hv : p1 = 10 := Int32.toInt_inj.mp (by rw [hs]; rfl)
      have h := ite_f h (show ¬ p1 = 0 from fun q => by rw [hv] at q; revert q; decide)
      have h := ite_f h (show ¬ p1 = 1 from fun q => by rw [hv] at q; revert q; decide)
      have h := ite_f h (show ¬ p1 = 2 from fun q => by rw [hv] at q; revert q; decide)
      have h := ite_f h (show ¬ p1 = 3 from fun q => by rw [hv] at q; revert q; decide)
      have h := ite_f h (show ¬ p1 = 4 from fun q => by rw [hv] at q; revert q; decide)
      have h := ite_f h (show ¬ p1 = 5 from fun q => by rw [hv] at q; revert q; decide)
      have h := ite_f h (show ¬ p1 = 6 from fun q => by rw [hv] at q; revert q; decide)
      have h := ite_f h (show ¬ p1 = 7 from fun q => by rw [hv] at q; revert q; decide)
      have h := ite_f h (show ¬ p1 = 8 from fun q => by rw [hv] at q; revert q; decide)
      have h := ite_f h (show ¬ p1 = 9 from fun q => by rw [hv] at q; revert q; decide)
      have h := ite_t h hv
      refine ⟨by decide, ?_⟩
      refine k_aload_n cx 0 dX10_count_148 rfl rfl ?_
      refine q_getR cx fl_X10_12 hk0 dX10_count_149 ?_
      obtain ⟨a31, g32, h⟩ := bind_ok h
      refine q_getI cx fl_X10_40 g32 dX10_count_152 ?_
      have h := Option.some.inj h
      exact k_iret cx hr hlk (by rw [← h]) rfl dX10_count_155
    | k + 11, ho => exact absurd ho (by simp)

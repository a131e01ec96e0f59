set_option maxRecDepth 100000 in
set_option maxHeartbeats 4000000 in
theorem w_X8_toLine {Γ : GE} {σ : St} {t : Nat} {ρ : Option Nat × St} (hk : hpK σ t = 8) (h : f_X8_toLine σ t = some ρ) : Ct Γ yX8_toLine cX8_toLine 7 (some (.object "PoemPages$Line")) 2 44 [va_rf (some t)] σ (some (va_rf ρ.1)) ρ.2 := by
  refine ct_intro (own := RX8) (L0 := [(0, va_rf (some t))]) (by decide +kernel) rfl (by simp [lg_sl, cat_rf, cat_i, cat_j]) (by simp [lv_args, cat_rf, cat_i, cat_j]) ?_
  intro p l e s m args below meth c hr hlk hin cx
  have hk0 := dn_eq hk
  unfold f_X8_toLine at h
  obtain ⟨σ1, g2, h⟩ := bind_ok h
  refine k_new cx nw_X8_45 g2 dX8_toLine_0 ?_
  refine k_dup cx (by simp [cat_rf, cat_i, cat_j]) dX8_toLine_3 ?_
  obtain ⟨a3, g4, h⟩ := bind_ok h
  obtain ⟨q5, g6, h⟩ := bind_ok h
  refine k_callIN cx iv_X8_47 (w_X9_init (dn_some g4).2 g6) (dn_some g4).1 (As := []) rfl rfl ⟨Nat.le_of_ble_eq_true rfl, Nat.le_of_ble_eq_true rfl⟩ (by simp [cat_rf, cat_i, cat_j]) dX8_toLine_4 ?_
  refine k_astore_n cx (i := 1) [(1, va_rf (some (hpN σ))), (0, va_rf (some t))] dX8_toLine_7 rfl (by decide) (by simp [cat_rf, cat_i, cat_j]) ?_
  refine k_iconst cx 0 dX8_toLine_8 (by decide) ?_
  refine k_istore_n cx (i := 2) [(2, .int 0), (1, va_rf (some (hpN σ))), (0, va_rf (some t))] dX8_toLine_9 rfl (by decide) (by simp [cat_rf, cat_i, cat_j]) ?_
  refine k_iconst cx 0 dX8_toLine_10 (by decide) ?_
  refine k_istore_n cx (i := 3) [(3, .int 0), (2, .int 0), (1, va_rf (some (hpN σ))), (0, va_rf (some t))] dX8_toLine_11 rfl (by decide) (by simp [cat_rf, cat_i, cat_j]) ?_
  refine k_iconst cx 0 dX8_toLine_12 (by decide) ?_
  refine k_istore cx [(4, .int 0), (3, .int 0), (2, .int 0), (1, va_rf (some (hpN σ))), (0, va_rf (some t))] dX8_toLine_13 (by decide) (by simp [cat_rf, cat_i, cat_j]) ?_
  refine k_iconst cx 0 dX8_toLine_15 (by decide) ?_
  refine k_istore cx [(5, .int 0), (4, .int 0), (3, .int 0), (2, .int 0), (1, va_rf (some (hpN σ))), (0, va_rf (some t))] dX8_toLine_16 (by decide) (by simp [cat_rf, cat_i, cat_j]) ?_
  obtain ⟨x8, hxx8, h⟩ := bind_ok h
  have Kx8 : Og p l e s m args below meth c Γ 7 2 44 σ (some (va_rf ρ.1)) ρ.2 111 [(1, va_rf (some (hpN σ))), (2, .int x8.1), (3, .int x8.2.1), (4, .int x8.2.2.1)] [] x8.2.2.2 := by
    obtain ⟨σ31, g32, h⟩ := bind_ok h
    refine k_new cx nw_X8_52 g32 dX8_toLine_111 ?_
    refine k_dup cx (by simp [cat_rf, cat_i, cat_j]) dX8_toLine_114 ?_
    refine k_aload_n cx 0 dX8_toLine_115 rfl rfl ?_
    refine k_iload cx 3 dX8_toLine_116 rfl ?_
    refine k_iload_n cx 1 dX8_toLine_118 rfl rfl ?_
    refine k_iload_n cx 2 dX8_toLine_119 rfl rfl ?_
    obtain ⟨a33, g34, h⟩ := bind_ok h
    obtain ⟨q35, g36, h⟩ := bind_ok h
    refine k_callI cx iv_X8_54 (w_X2_init (dn_some g34).2 g36) (dn_some g34).1 (As := [va_rf (some (hpN σ)), .int x8.2.2.1, .int x8.1, .int x8.2.1]) rfl rfl ⟨Nat.le_of_ble_eq_true rfl, Nat.le_of_ble_eq_true rfl⟩ (by simp [cat_rf, cat_i, cat_j]) dX8_toLine_120 ?_
    have h := Option.some.inj h
    exact k_aret cx hr hlk (by rw [← h]) (by rw [← h]) dX8_toLine_123
  have KLx8 : ∀ (n : Nat) (v2 : Int32) (v3 : Int32) (v4 : Int32) (v5 : Int32) (τ : St), LX8_toLine_18 n t (some (hpN σ)) v2 v3 v4 v5 τ = some x8 → Og p l e s m args below meth c Γ 7 2 44 σ (some (va_rf ρ.1)) ρ.2 18 [(0, va_rf (some t)), (1, va_rf (some (hpN σ))), (2, .int v2), (3, .int v3), (4, .int v4), (5, .int v5)] [] τ := by
    intro n
    induction n with
    | zero => intro _ _ _ _ _ h; cases (show (none : Option _) = some x8 from h)
    | succ n ihx8 =>
      intro v2 v3 v4 v5 τ h
      rw [LX8_toLine_18] at h
      refine k_iload cx 5 dX8_toLine_18 rfl ?_
      refine k_aload_n cx 0 dX8_toLine_20 rfl rfl ?_
      obtain ⟨a9, g10, h⟩ := bind_ok h
      refine q_getI cx fl_X8_15 g10 dX8_toLine_21 ?_
      refine k_icmp_ge cx 111 dX8_toLine_24 (by decide) (fun c11 => ?_) (fun c11 => ?_)
      · have h := ite_t h c11
        refine k_sub [1, 2, 3, 4] rfl ?_
        obtain rfl := Option.some.inj h
        exact Kx8
      · have h := ite_f h c11
        refine k_aload_n cx 0 dX8_toLine_27 rfl rfl ?_
        refine k_iload cx 5 dX8_toLine_28 rfl ?_
        obtain ⟨q12, g13, h⟩ := bind_ok h
        refine k_callV cx iv_X8_23 (ci := 8) rfl (by decide) (w_X8_byteAt (dn_some g10).2 g13) g10 (As := [.int v5]) rfl rfl ⟨Nat.le_of_ble_eq_true rfl, Nat.le_of_ble_eq_true rfl⟩ (by simp [cat_rf, cat_i, cat_j]) dX8_toLine_30 ?_
        refine k_istore cx [(6, .int q12), (0, va_rf (some t)), (1, va_rf (some (hpN σ))), (2, .int v2), (3, .int v3), (4, .int v4), (5, .int v5)] dX8_toLine_33 (by decide) (by simp [cat_rf, cat_i, cat_j]) ?_
        refine k_iload cx 0 dX8_toLine_35 rfl ?_
        obtain ⟨q14, g15, h⟩ := bind_ok h
        refine k_callSN cx iv_X8_26 (w_X10_isLetter g15) (As := [.int q12]) rfl rfl ⟨Nat.le_of_ble_eq_true rfl, Nat.le_of_ble_eq_true rfl⟩ (by simp [cat_rf, cat_i, cat_j]) dX8_toLine_37 ?_
        obtain ⟨x16, hxx16, h⟩ := bind_ok h
        have Kx16 : Og p l e s m args below meth c Γ 7 2 44 σ (some (va_rf ρ.1)) ρ.2 105 [(0, va_rf (some t)), (1, va_rf (some (hpN σ))), (2, .int x16.1), (3, .int x16.2.1), (4, .int x16.2.2.1), (5, .int v5)] [] x16.2.2.2 := by
          refine k_iinc cx 5 [(5, .int (v5 + 1)), (0, va_rf (some t)), (1, va_rf (some (hpN σ))), (2, .int x16.1), (3, .int x16.2.1), (4, .int x16.2.2.1)] (v5 + 1) dX8_toLine_105 rfl rfl (by decide) (by simp [cat_rf, cat_i, cat_j]) ?_
          refine k_goto cx 18 dX8_toLine_108 (by decide) ?_
          refine k_sub [1, 2, 3, 4, 5, 0] rfl ?_
          exact ihx8 _ _ _ _ _ h
        have h := hxx16
        refine k_if_eq cx 71 dX8_toLine_40 (by decide) (fun c17 => ?_) (fun c17 => ?_)
        · have h := ite_t h c17
          refine k_iload cx 0 dX8_toLine_71 rfl ?_
          refine k_bipush cx 126 dX8_toLine_73 (by decide) ?_
          refine k_icmp_ne cx 83 dX8_toLine_75 (by decide) (fun c18 => ?_) (fun c18 => ?_)
          · have h := ite_t h c18
            refine k_iload cx 0 dX8_toLine_83 rfl ?_
            refine k_bipush cx 62 dX8_toLine_85 (by decide) ?_
            refine k_icmp_ne cx 96 dX8_toLine_87 (by decide) (fun c19 => ?_) (fun c19 => ?_)
            · have h := ite_t h c19
              refine k_iload cx 0 dX8_toLine_96 rfl ?_
              refine k_bipush cx 47 dX8_toLine_98 (by decide) ?_
              refine k_icmp_ne cx 105 dX8_toLine_100 (by decide) (fun c20 => ?_) (fun c20 => ?_)
              · have h := ite_t h c20
                refine k_sub [1, 2, 3, 4, 5, 6] rfl ?_
                obtain rfl := Option.some.inj h
                exact Kx16
              · have h := ite_f h c20
                refine k_iconst cx 1 dX8_toLine_103 (by decide) ?_
                refine k_istore_n cx (i := 3) [(3, .int 1), (6, .int q12), (0, va_rf (some t)), (1, va_rf (some (hpN σ))), (2, .int v2), (4, .int v4), (5, .int v5)] dX8_toLine_104 rfl (by decide) (by simp [cat_rf, cat_i, cat_j]) ?_
                refine k_sub [2, 3, 4, 0, 5, 6] rfl ?_
                obtain rfl := Option.some.inj h
                exact Kx16
            · have h := ite_f h c19
              refine k_iinc cx 5 [(4, .int (v4 + 1)), (6, .int q12), (0, va_rf (some t)), (1, va_rf (some (hpN σ))), (2, .int v2), (3, .int v3), (5, .int v5)] (v4 + 1) dX8_toLine_90 rfl rfl (by decide) (by simp [cat_rf, cat_i, cat_j]) ?_
              refine k_goto cx 105 dX8_toLine_93 (by decide) ?_
              refine k_sub [2, 3, 4, 5, 0, 6] rfl ?_
              obtain rfl := Option.some.inj h
              exact Kx16
          · have h := ite_f h c18
            refine k_iconst cx 1 dX8_toLine_78 (by decide) ?_
            refine k_istore_n cx (i := 2) [(2, .int 1), (6, .int q12), (0, va_rf (some t)), (1, va_rf (some (hpN σ))), (3, .int v3), (4, .int v4), (5, .int v5)] dX8_toLine_79 rfl (by decide) (by simp [cat_rf, cat_i, cat_j]) ?_
            refine k_goto cx 105 dX8_toLine_80 (by decide) ?_
            refine k_sub [2, 3, 0, 4, 5, 6] rfl ?_
            obtain rfl := Option.some.inj h
            exact Kx16
        · have h := ite_f h c17
          refine k_aload_n cx 2 dX8_toLine_43 rfl rfl ?_
          refine k_iload cx 0 dX8_toLine_44 rfl ?_
          refine k_aload_n cx 1 dX8_toLine_46 rfl rfl ?_
          refine k_iload cx 6 dX8_toLine_47 rfl ?_
          refine k_iconst cx 1 dX8_toLine_49 (by decide) ?_
          refine k_isub cx dX8_toLine_50 ?_
          obtain ⟨q21, g22, h⟩ := bind_ok h
          refine k_callV cx iv_X8_23 (ci := 8) rfl (by decide) (w_X8_byteAt (dn_some g10).2 g22) g10 (As := [.int (v5 - 1)]) rfl rfl ⟨Nat.le_of_ble_eq_true rfl, Nat.le_of_ble_eq_true rfl⟩ (by simp [cat_rf, cat_i, cat_j]) dX8_toLine_51 ?_
          obtain ⟨q23, g24, h⟩ := bind_ok h
          refine k_callSN cx iv_X8_26 (w_X10_isLetter g24) (As := [.int q21]) rfl rfl ⟨Nat.le_of_ble_eq_true rfl, Nat.le_of_ble_eq_true rfl⟩ (by simp [cat_rf, cat_i, cat_j]) dX8_toLine_54 ?_
          obtain ⟨x25, hxx25, h⟩ := bind_ok h
          have Kx25 : Og p l e s m args below meth c Γ 7 2 44 σ (some (va_rf ρ.1)) ρ.2 65 [(0, va_rf (some t)), (1, va_rf (some (hpN σ))), (2, .int v2), (3, .int v3), (4, .int v4), (5, .int v5)] [.int x25, .int q12, va_rf (some (hpN σ))] τ := by
            obtain ⟨a27, g28, h⟩ := bind_ok h
            obtain ⟨q29, g30, h⟩ := bind_ok h
            refine k_callV cx iv_X8_48 (ci := 9) rfl (by decide) (w_X9_add (dn_some g28).2 g30) g28 (As := [.int q12, .int x25]) rfl rfl ⟨Nat.le_of_ble_eq_true rfl, Nat.le_of_ble_eq_true rfl⟩ (by simp [cat_rf, cat_i, cat_j]) dX8_toLine_65 ?_
            refine k_goto cx 105 dX8_toLine_68 (by decide) ?_
            obtain rfl := Option.some.inj h
            exact Kx16
          have h := hxx25
          refine k_if_ne cx 64 dX8_toLine_57 (by decide) (fun c26 => ?_) (fun c26 => ?_)
          · have h := ite_t h c26
            refine k_iconst cx 0 dX8_toLine_64 (by decide) ?_
            refine k_sub [1, 2, 3, 4, 5, 6] rfl ?_
            obtain rfl := Option.some.inj h
            exact Kx25
          · have h := ite_f h c26
            refine k_iconst cx 1 dX8_toLine_60 (by decide) ?_
            refine k_goto cx 65 dX8_toLine_61 (by decide) ?_
            refine k_sub [1, 2, 3, 4, 5, 6] rfl ?_
            obtain rfl := Option.some.inj h
            exact Kx25
  refine k_sub [5, 4, 3, 2, 1, 0] rfl ?_
  exact KLx8 FU _ _ _ _ _ hxx8
set_option maxRecDepth 100000 in
set_option maxHeartbeats 4000000 in
theorem w_X9_byteAt {Γ : GE} {σ : St} {t : Nat} {p1 : Int32} {ρ : Int32} (hk : hpK σ t = 9) (h : f_X9_byteAt σ t p1 = some ρ) : Ct Γ yX9_byteAt cX9_byteAt 2 (some .int) 0 0 [va_rf (some t), .int p1] σ (some (.int ρ)) σ := by
  refine ct_intro (own := RX9) (L0 := [(0, va_rf (some t)), (1, .int p1)]) (by decide +kernel) rfl (by simp [lg_sl, cat_rf, cat_i, cat_j]) (by simp [lv_args, cat_rf, cat_i, cat_j]) ?_
  intro p l e s m args below meth c hr hlk hin cx
  have hk0 := dn_eq hk
  unfold f_X9_byteAt at h
  refine k_iload_n cx 1 dX9_byteAt_0 rfl rfl ?_
  refine k_if_lt cx 21 dX9_byteAt_1 (by decide) (fun c1 => ?_) (fun c1 => ?_)
  · have h := ite_t h c1
    refine k_iconst cx (-1) dX9_byteAt_21 (by decide) ?_
    refine k_goto cx 31 dX9_byteAt_22 (by decide) ?_
    have h := Option.some.inj h
    exact k_iret cx hr hlk (by rw [← h]) rfl dX9_byteAt_31
  · have h := ite_f h c1
    refine k_iload_n cx 1 dX9_byteAt_4 rfl rfl ?_
    refine k_aload_n cx 0 dX9_byteAt_5 rfl rfl ?_
    refine q_getI cx fl_X9_19 hk0 dX9_byteAt_6 ?_
    refine k_icmp_ge cx 21 dX9_byteAt_9 (by decide) (fun c2 => ?_) (fun c2 => ?_)
    · have h := ite_t h c2
      refine k_iconst cx (-1) dX9_byteAt_21 (by decide) ?_
      refine k_goto cx 31 dX9_byteAt_22 (by decide) ?_
      have h := Option.some.inj h
      exact k_iret cx hr hlk (by rw [← h]) rfl dX9_byteAt_31
    · have h := ite_f h c2
      refine k_iload_n cx 1 dX9_byteAt_12 rfl rfl ?_
      refine k_aload_n cx 0 dX9_byteAt_13 rfl rfl ?_
      refine q_getR cx fl_X9_9 hk0 dX9_byteAt_14 ?_
      obtain ⟨a3, g4, h⟩ := bind_ok h
      refine k_alen cx (by decide) g4 dX9_byteAt_17 ?_
      refine k_icmp_lt cx 25 dX9_byteAt_18 (by decide) (fun c5 => ?_) (fun c5 => ?_)
      · have h := ite_t h c5
        refine k_aload_n cx 0 dX9_byteAt_25 rfl rfl ?_
        refine q_getR cx fl_X9_9 hk0 dX9_byteAt_26 ?_
        refine k_iload_n cx 1 dX9_byteAt_29 rfl rfl ?_
        obtain ⟨j6, g7, h⟩ := bind_ok h
        refine k_bald cx g4 g7 dX9_byteAt_30 ?_
        have h := Option.some.inj h
        exact k_iret cx hr hlk (by rw [← h]) rfl dX9_byteAt_31
      · have h := ite_f h c5
        refine k_iconst cx (-1) dX9_byteAt_21 (by decide) ?_
        refine k_goto cx 31 dX9_byteAt_22 (by decide) ?_
        have h := Option.some.inj h
        exact k_iret cx hr hlk (by rw [← h]) rfl dX9_byteAt_31
set_option maxRecDepth 100000 in
set_option maxHeartbeats 4000000 in
theorem w_X10_init {Γ : GE} {σ : St} {t : Nat} {ρ : St} (hk : hpK σ t = 10) (h : f_X10_init σ t = some ρ) : Ct Γ yX10_init cX10_init 1 none 3 63 [va_rf (some t)] σ none ρ := by
  refine ct_intro (own := RX10) (L0 := [(0, va_rf (some t))]) (by decide +kernel) rfl (by simp [lg_sl, cat_rf, cat_i, cat_j]) (by simp [lv_args, cat_rf, cat_i, cat_j]) ?_
  intro p l e s m args below meth c hr hlk hin cx
  have hk0 := dn_eq hk
  unfold f_X10_init at h
  refine k_aload_n cx 0 dX10_init_0 rfl rfl ?_
  refine k_objInit cx oi_X10_3 oi_i oi_c ⟨Nat.le_of_ble_eq_true rfl, Nat.le_of_ble_eq_true rfl⟩ (by simp [cat_rf, cat_i, cat_j]) dX10_init_1 ?_
  refine k_aload_n cx 0 dX10_init_4 rfl rfl ?_
  obtain ⟨σ1, g2, h⟩ := bind_ok h
  refine k_new cx nw_X10_9 g2 dX10_init_5 ?_
  refine k_dup cx (by simp [cat_rf, cat_i, cat_j]) dX10_init_8 ?_
  obtain ⟨a3, g4, h⟩ := bind_ok h
  obtain ⟨q5, g6, h⟩ := bind_ok h
  refine k_callIN cx iv_X10_11 (w_X8_init (dn_some g4).2 g6) (dn_some g4).1 (As := []) rfl rfl ⟨Nat.le_of_ble_eq_true rfl, Nat.le_of_ble_eq_true rfl⟩ (by simp [cat_rf, cat_i, cat_j]) dX10_init_9 ?_
  obtain ⟨a7, g8, h⟩ := bind_ok h
  refine q_putRF cx pl_X10_12 hin g8 dX10_init_12 ?_
  refine k_aload_n cx 0 dX10_init_15 rfl rfl ?_
  obtain ⟨σ9, g10, h⟩ := bind_ok h
  refine k_new cx nw_X10_16 g10 dX10_init_16 ?_
  refine k_dup cx (by simp [cat_rf, cat_i, cat_j]) dX10_init_19 ?_
  obtain ⟨a11, g12, h⟩ := bind_ok h
  obtain ⟨q13, g14, h⟩ := bind_ok h
  refine k_callI cx iv_X10_18 (w_X5_init (dn_some g12).2 g14) (dn_some g12).1 (As := []) rfl rfl ⟨Nat.le_of_ble_eq_true rfl, Nat.le_of_ble_eq_true rfl⟩ (by simp [cat_rf, cat_i, cat_j]) dX10_init_20 ?_
  obtain ⟨a15, g16, h⟩ := bind_ok h
  refine q_putRF cx pl_X10_19 hin g16 dX10_init_23 ?_
  refine k_aload_n cx 0 dX10_init_26 rfl rfl ?_
  obtain ⟨σ17, g18, h⟩ := bind_ok h
  refine k_new cx nw_X10_23 g18 dX10_init_27 ?_
  refine k_dup cx (by simp [cat_rf, cat_i, cat_j]) dX10_init_30 ?_
  obtain ⟨a19, g20, h⟩ := bind_ok h
  obtain ⟨q21, g22, h⟩ := bind_ok h
  refine k_callI cx iv_X10_25 (w_X0_init (dn_some g20).2 g22) (dn_some g20).1 (As := []) rfl rfl ⟨Nat.le_of_ble_eq_true rfl, Nat.le_of_ble_eq_true rfl⟩ (by simp [cat_rf, cat_i, cat_j]) dX10_init_31 ?_
  obtain ⟨a23, g24, h⟩ := bind_ok h
  refine q_putRF cx pl_X10_26 hin g24 dX10_init_34 ?_
  refine k_aload_n cx 0 dX10_init_37 rfl rfl ?_
  obtain ⟨σ25, g26, h⟩ := bind_ok h
  refine k_new cx nw_X10_30 g26 dX10_init_38 ?_
  refine k_dup cx (by simp [cat_rf, cat_i, cat_j]) dX10_init_41 ?_
  obtain ⟨a27, g28, h⟩ := bind_ok h
  obtain ⟨q29, g30, h⟩ := bind_ok h
  refine k_callIN cx iv_X10_32 (w_X1_init (dn_some g28).2 g30) (dn_some g28).1 (As := []) rfl rfl ⟨Nat.le_of_ble_eq_true rfl, Nat.le_of_ble_eq_true rfl⟩ (by simp [cat_rf, cat_i, cat_j]) dX10_init_42 ?_
  obtain ⟨a31, g32, h⟩ := bind_ok h
  refine q_putRF cx pl_X10_33 hin g32 dX10_init_45 ?_
  refine k_aload_n cx 0 dX10_init_48 rfl rfl ?_
  obtain ⟨σ33, g34, h⟩ := bind_ok h
  refine k_new cx nw_X10_30 g34 dX10_init_49 ?_
  refine k_dup cx (by simp [cat_rf, cat_i, cat_j]) dX10_init_52 ?_
  obtain ⟨a35, g36, h⟩ := bind_ok h
  obtain ⟨q37, g38, h⟩ := bind_ok h
  refine k_callIN cx iv_X10_32 (w_X1_init (dn_some g36).2 g38) (dn_some g36).1 (As := []) rfl rfl ⟨Nat.le_of_ble_eq_true rfl, Nat.le_of_ble_eq_true rfl⟩ (by simp [cat_rf, cat_i, cat_j]) dX10_init_53 ?_
  obtain ⟨a39, g40, h⟩ := bind_ok h
  refine q_putRF cx pl_X10_37 hin g40 dX10_init_56 ?_
  have h := Option.some.inj h
  exact k_vret cx hr hlk rfl (by rw [← h]) dX10_init_59
set_option maxRecDepth 100000 in
set_option maxHeartbeats 4000000 in
theorem w_X10_type {Γ : GE} {σ : St} {t : Nat} {p1 : Int32} {ρ : Int32 × St} (hk : hpK σ t = 10) (h : f_X10_type σ t p1 = some ρ) : Ct Γ yX10_type cX10_type 2 (some .int) 1 21 [va_rf (some t), .int p1] σ (some (.int ρ.1)) ρ.2 := by
  refine ct_intro (own := RX10) (L0 := [(0, va_rf (some t)), (1, .int p1)]) (by decide +kernel) rfl (by simp [lg_sl, cat_rf, cat_i, cat_j]) (by simp [lv_args, cat_rf, cat_i, cat_j]) ?_
  intro p l e s m args below meth c hr hlk hin cx
  have hk0 := dn_eq hk
  unfold f_X10_type at h
  refine k_iload_n cx 1 dX10_type_0 rfl rfl ?_
  refine k_if_lt cx 10 dX10_type_1 (by decide) (fun c1 => ?_) (fun c1 => ?_)
  · have h := ite_t h c1
    refine k_bipush cx (-2) dX10_type_10 (by decide) ?_
    have h := Option.some.inj h
    exact k_iret cx hr hlk (by rw [← h]) (by rw [← h]) dX10_type_12
  · have h := ite_f h c1
    refine k_iload_n cx 1 dX10_type_4 rfl rfl ?_
    refine k_bipush cx 127 dX10_type_5 (by decide) ?_
    refine k_icmp_le cx 13 dX10_type_7 (by decide) (fun c2 => ?_) (fun c2 => ?_)
    · have h := ite_t h c2
      refine k_aload_n cx 0 dX10_type_13 rfl rfl ?_
      refine q_getR cx fl_X10_12 hk0 dX10_type_14 ?_
      obtain ⟨a3, g4, h⟩ := bind_ok h
      refine q_getI cx fl_X10_40 g4 dX10_type_17 ?_
      refine k_bipush cx 80 dX10_type_20 (by decide) ?_
      refine k_icmp_lt cx 28 dX10_type_22 (by decide) (fun c5 => ?_) (fun c5 => ?_)
      · have h := ite_t h c5
        refine k_aload_n cx 0 dX10_type_28 rfl rfl ?_
        refine q_getR cx fl_X10_12 hk0 dX10_type_29 ?_
        refine k_iload_n cx 1 dX10_type_32 rfl rfl ?_
        obtain ⟨q6, g7, h⟩ := bind_ok h
        refine k_callV cx iv_X10_44 (ci := 8) rfl (by decide) (w_X8_append (dn_some g4).2 g7) g4 (As := [.int p1]) rfl rfl ⟨Nat.le_of_ble_eq_true rfl, Nat.le_of_ble_eq_true rfl⟩ (by simp [cat_rf, cat_i, cat_j]) dX10_type_33 ?_
        refine k_aload_n cx 0 dX10_type_36 rfl rfl ?_
        obtain ⟨a8, g9, h⟩ := bind_ok h
        refine q_getR cx fl_X10_12 g9 dX10_type_37 ?_
        obtain ⟨a10, g11, h⟩ := bind_ok h
        refine q_getI cx fl_X10_40 g11 dX10_type_40 ?_
        have h := Option.some.inj h
        exact k_iret cx hr hlk (by rw [← h]) (by rw [← h]) dX10_type_43
      · have h := ite_f h c5
        refine k_bipush cx (-4) dX10_type_25 (by decide) ?_
        have h := Option.some.inj h
        exact k_iret cx hr hlk (by rw [← h]) (by rw [← h]) dX10_type_27
    · have h := ite_f h c2
      refine k_bipush cx (-2) dX10_type_10 (by decide) ?_
      have h := Option.some.inj h
      exact k_iret cx hr hlk (by rw [← h]) (by rw [← h]) dX10_type_12
set_option maxRecDepth 100000 in
set_option maxHeartbeats 4000000 in
theorem w_X10_clear {Γ : GE} {σ : St} {t : Nat} {ρ : Int32 × St} (hk : hpK σ t = 10) (h : f_X10_clear σ t = some ρ) : Ct Γ yX10_clear cX10_clear 2 (some .int) 0 0 [va_rf (some t)] σ (some (.int ρ.1)) ρ.2 := by
  refine ct_intro (own := RX10) (L0 := [(0, va_rf (some t))]) (by decide +kernel) rfl (by simp [lg_sl, cat_rf, cat_i, cat_j]) (by simp [lv_args, cat_rf, cat_i, cat_j]) ?_
  intro p l e s m args below meth c hr hlk hin cx
  have hk0 := dn_eq hk
  unfold f_X10_clear at h
  refine k_aload_n cx 0 dX10_clear_0 rfl rfl ?_
  refine q_getR cx fl_X10_12 hk0 dX10_clear_1 ?_
  obtain ⟨a1, g2, h⟩ := bind_ok h
  refine q_getI cx fl_X10_40 g2 dX10_clear_4 ?_
  refine k_istore_n cx (i := 1) [(1, .int (hpI σ 257 a1)), (0, va_rf (some t))] dX10_clear_7 rfl (by decide) (by simp [cat_rf, cat_i, cat_j]) ?_
  refine k_aload_n cx 1 dX10_clear_8 rfl rfl ?_
  refine q_getR cx fl_X10_12 hk0 dX10_clear_9 ?_
  refine k_iconst cx 0 dX10_clear_12 (by decide) ?_
  refine q_putI cx pl_X10_40 g2 dX10_clear_13 ?_
  refine k_iload_n cx 0 dX10_clear_16 rfl rfl ?_
  have h := Option.some.inj h
  exact k_iret cx hr hlk (by rw [← h]) (by rw [← h]) dX10_clear_17
set_option maxRecDepth 100000 in
set_option maxHeartbeats 4000000 in
theorem w_X10_fault {Γ : GE} {σ : St} {t : Nat} {p1 : Int32} {ρ : Int32} (hk : hpK σ t = 10) (h : f_X10_fault σ t p1 = some ρ) : Ct Γ yX10_fault cX10_fault 2 (some .int) 7 188 [va_rf (some t), .int p1] σ (some (.int ρ)) σ := by
  refine ct_intro (own := RX10) (L0 := [(0, va_rf (some t)), (1, .int p1)]) (by decide +kernel) rfl (by simp [lg_sl, cat_rf, cat_i, cat_j]) (by simp [lv_args, cat_rf, cat_i, cat_j]) ?_
  intro p l e s m args below meth c hr hlk hin cx
  have hk0 := dn_eq hk
  unfold f_X10_fault at h
  refine k_iload_n cx 1 dX10_fault_0 rfl rfl ?_
  refine k_if_eq cx 14 dX10_fault_1 (by decide) (fun c1 => ?_) (fun c1 => ?_)
  · have h := ite_t h c1
    refine k_aload_n cx 0 dX10_fault_14 rfl rfl ?_
    refine q_getR cx fl_X10_12 hk0 dX10_fault_15 ?_
    obtain ⟨a2, g3, h⟩ := bind_ok h
    obtain ⟨q4, g5, h⟩ := bind_ok h
    refine k_callV cx iv_X10_52 (ci := 8) rfl (by decide) (w_X8_lineFault (dn_some g3).2 g5) g3 (As := []) rfl rfl ⟨Nat.le_of_ble_eq_true rfl, Nat.le_of_ble_eq_true rfl⟩ (by simp [cat_rf, cat_i, cat_j]) dX10_fault_18 ?_
    have h := Option.some.inj h
    exact k_iret cx hr hlk (by rw [← h]) rfl dX10_fault_21
  · have h := ite_f h c1
    refine k_aload_n cx 0 dX10_fault_4 rfl rfl ?_
    refine q_getR cx fl_X10_12 hk0 dX10_fault_5 ?_
    obtain ⟨a6, g7, h⟩ := bind_ok h
    obtain ⟨q8, g9, h⟩ := bind_ok h
    refine k_callV cx iv_X10_48 (ci := 8) rfl (by decide) (w_X8_shapeFault (dn_some g7).2 g9) g7 (As := []) rfl rfl ⟨Nat.le_of_ble_eq_true rfl, Nat.le_of_ble_eq_true rfl⟩ (by simp [cat_rf, cat_i, cat_j]) dX10_fault_8 ?_
    refine k_goto cx 21 dX10_fault_11 (by decide) ?_
    have h := Option.some.inj h
    exact k_iret cx hr hlk (by rw [← h]) rfl dX10_fault_21
set_option maxRecDepth 100000 in
set_option maxHeartbeats 4000000 in
theorem w_X10_layOut {Γ : GE} {σ : St} {t : Nat} {ρ : St} (hk : hpK σ t = 10) (h : f_X10_layOut σ t = some ρ) : Ct Γ yX10_layOut cX10_layOut 1 none 6 149 [va_rf (some t)] σ none ρ := by
  refine ct_intro (own := RX10) (L0 := [(0, va_rf (some t))]) (by decide +kernel) rfl (by simp [lg_sl, cat_rf, cat_i, cat_j]) (by simp [lv_args, cat_rf, cat_i, cat_j]) ?_
  intro p l e s m args below meth c hr hlk hin cx
  have hk0 := dn_eq hk
  unfold f_X10_layOut at h
  refine k_aload_n cx 0 dX10_layOut_0 rfl rfl ?_
  refine q_getR cx fl_X10_33 hk0 dX10_layOut_1 ?_
  refine k_aload_n cx 0 dX10_layOut_4 rfl rfl ?_
  refine q_getR cx fl_X10_19 hk0 dX10_layOut_5 ?_
  refine k_aload_n cx 0 dX10_layOut_8 rfl rfl ?_
  refine q_getR cx fl_X10_19 hk0 dX10_layOut_9 ?_
  refine k_iconst cx 0 dX10_layOut_12 (by decide) ?_
  obtain ⟨a1, g2, h⟩ := bind_ok h
  obtain ⟨q3, g4, h⟩ := bind_ok h
  refine k_callV cx iv_X10_155 (ci := 5) rfl (by decide) (w_X5_setting (dn_some g2).2 g4) g2 (As := [.int 0]) rfl rfl ⟨Nat.le_of_ble_eq_true rfl, Nat.le_of_ble_eq_true rfl⟩ (by simp [cat_rf, cat_i, cat_j]) dX10_layOut_13 ?_
  obtain ⟨a5, g6, h⟩ := bind_ok h
  obtain ⟨q7, g8, h⟩ := bind_ok h
  refine k_callV cx iv_X10_237 (ci := 1) rfl (by decide) (w_X1_breakLines (dn_some g6).2 g8) g6 (As := [va_rf (hpR σ 321 t), .int q3]) rfl rfl ⟨Nat.le_of_ble_eq_true rfl, Nat.le_of_ble_eq_true rfl⟩ (by simp [cat_rf, cat_i, cat_j]) dX10_layOut_16 ?_
  refine k_aload_n cx 0 dX10_layOut_19 rfl rfl ?_
  obtain ⟨a9, g10, h⟩ := bind_ok h
  refine q_getR cx fl_X10_33 g10 dX10_layOut_20 ?_
  refine k_aload_n cx 0 dX10_layOut_23 rfl rfl ?_
  refine q_getR cx fl_X10_19 g10 dX10_layOut_24 ?_
  refine k_iconst cx 1 dX10_layOut_27 (by decide) ?_
  obtain ⟨a11, g12, h⟩ := bind_ok h
  obtain ⟨q13, g14, h⟩ := bind_ok h
  refine k_callV cx iv_X10_155 (ci := 5) rfl (by decide) (w_X5_setting (dn_some g12).2 g14) g12 (As := [.int 1]) rfl rfl ⟨Nat.le_of_ble_eq_true rfl, Nat.le_of_ble_eq_true rfl⟩ (by simp [cat_rf, cat_i, cat_j]) dX10_layOut_28 ?_
  refine k_aload_n cx 0 dX10_layOut_31 rfl rfl ?_
  refine q_getR cx fl_X10_19 g10 dX10_layOut_32 ?_
  refine k_iconst cx 4 dX10_layOut_35 (by decide) ?_
  obtain ⟨q15, g16, h⟩ := bind_ok h
  refine k_callV cx iv_X10_155 (ci := 5) rfl (by decide) (w_X5_setting (dn_some g12).2 g16) g12 (As := [.int 4]) rfl rfl ⟨Nat.le_of_ble_eq_true rfl, Nat.le_of_ble_eq_true rfl⟩ (by simp [cat_rf, cat_i, cat_j]) dX10_layOut_36 ?_
  obtain ⟨a17, g18, h⟩ := bind_ok h
  obtain ⟨q19, g20, h⟩ := bind_ok h
  refine k_callV cx iv_X10_241 (ci := 1) rfl (by decide) (w_X1_putOnPages (dn_some g18).2 g20) g18 (As := [.int q13, .int q15]) rfl rfl ⟨Nat.le_of_ble_eq_true rfl, Nat.le_of_ble_eq_true rfl⟩ (by simp [cat_rf, cat_i, cat_j]) dX10_layOut_39 ?_
  have h := Option.some.inj h
  exact k_vret cx hr hlk rfl (by rw [← h]) dX10_layOut_42
set_option maxRecDepth 100000 in
set_option maxHeartbeats 4000000 in
theorem w_X10_insert {Γ : GE} {σ : St} {t : Nat} {p1 : Int32} {ρ : Int32 × St} (hk : hpK σ t = 10) (h : f_X10_insert σ t p1 = some ρ) : Ct Γ yX10_insert cX10_insert 3 (some .int) 7 169 [va_rf (some t), .int p1] σ (some (.int ρ.1)) ρ.2 := by
  refine ct_intro (own := RX10) (L0 := [(0, va_rf (some t)), (1, .int p1)]) (by decide +kernel) rfl (by simp [lg_sl, cat_rf, cat_i, cat_j]) (by simp [lv_args, cat_rf, cat_i, cat_j]) ?_
  intro p l e s m args below meth c hr hlk hin cx
  have hk0 := dn_eq hk
  unfold f_X10_insert at h
  refine k_iload_n cx 1 dX10_insert_0 rfl rfl ?_
  refine k_if_lt cx 15 dX10_insert_1 (by decide) (fun c1 => ?_) (fun c1 => ?_)
  · have h := ite_t h c1
    refine k_bipush cx (-2) dX10_insert_15 (by decide) ?_
    have h := Option.some.inj h
    exact k_iret cx hr hlk (by rw [← h]) (by rw [← h]) dX10_insert_17
  · have h := ite_f h c1
    refine k_iload_n cx 1 dX10_insert_4 rfl rfl ?_
    refine k_aload_n cx 0 dX10_insert_5 rfl rfl ?_
    refine q_getR cx fl_X10_19 hk0 dX10_insert_6 ?_
    obtain ⟨a2, g3, h⟩ := bind_ok h
    refine q_getI cx fl_X10_55 g3 dX10_insert_9 ?_
    refine k_icmp_le cx 18 dX10_insert_12 (by decide) (fun c4 => ?_) (fun c4 => ?_)
    · have h := ite_t h c4
      refine k_aload_n cx 0 dX10_insert_18 rfl rfl ?_
      refine q_getR cx fl_X10_12 hk0 dX10_insert_19 ?_
      obtain ⟨a5, g6, h⟩ := bind_ok h
      obtain ⟨q7, g8, h⟩ := bind_ok h
      refine k_callV cx iv_X10_52 (ci := 8) rfl (by decide) (w_X8_lineFault (dn_some g6).2 g8) g6 (As := []) rfl rfl ⟨Nat.le_of_ble_eq_true rfl, Nat.le_of_ble_eq_true rfl⟩ (by simp [cat_rf, cat_i, cat_j]) dX10_insert_22 ?_
      refine k_istore_n cx (i := 2) [(2, .int q7), (0, va_rf (some t)), (1, .int p1)] dX10_insert_25 rfl (by decide) (by simp [cat_rf, cat_i, cat_j]) ?_
      refine k_iload_n cx 0 dX10_insert_26 rfl rfl ?_
      refine k_iconst cx (-1) dX10_insert_27 (by decide) ?_
      refine k_icmp_eq cx 37 dX10_insert_28 (by decide) (fun c9 => ?_) (fun c9 => ?_)
      · have h := ite_t h c9
        refine k_aload_n cx 1 dX10_insert_37 rfl rfl ?_
        refine q_getR cx fl_X10_19 hk0 dX10_insert_38 ?_
        refine q_getI cx fl_X10_55 g3 dX10_insert_41 ?_
        refine k_bipush cx 24 dX10_insert_44 (by decide) ?_
        refine k_icmp_lt cx 52 dX10_insert_46 (by decide) (fun c10 => ?_) (fun c10 => ?_)
        · have h := ite_t h c10
          refine k_aload_n cx 1 dX10_insert_52 rfl rfl ?_
          refine q_getR cx fl_X10_26 hk0 dX10_insert_53 ?_
          refine k_aload_n cx 1 dX10_insert_56 rfl rfl ?_
          refine q_getR cx fl_X10_19 hk0 dX10_insert_57 ?_
          obtain ⟨a11, g12, h⟩ := bind_ok h
          obtain ⟨q13, g14, h⟩ := bind_ok h
          refine k_callV cx iv_X10_58 (ci := 0) rfl (by decide) (w_X0_keepState (dn_some g12).2 g14) g12 (As := [va_rf (hpR σ 321 t)]) rfl rfl ⟨Nat.le_of_ble_eq_true rfl, Nat.le_of_ble_eq_true rfl⟩ (by simp [cat_rf, cat_i, cat_j]) dX10_insert_60 ?_
          refine k_aload_n cx 1 dX10_insert_63 rfl rfl ?_
          obtain ⟨a15, g16, h⟩ := bind_ok h
          refine q_getR cx fl_X10_19 g16 dX10_insert_64 ?_
          refine k_iload_n cx 2 dX10_insert_67 rfl rfl ?_
          refine k_aload_n cx 1 dX10_insert_68 rfl rfl ?_
          refine q_getR cx fl_X10_12 g16 dX10_insert_69 ?_
          obtain ⟨a17, g18, h⟩ := bind_ok h
          obtain ⟨q19, g20, h⟩ := bind_ok h
          refine k_callV cx iv_X10_62 (ci := 8) rfl (by decide) (w_X8_toLine (dn_some g18).2 g20) g18 (As := []) rfl rfl ⟨Nat.le_of_ble_eq_true rfl, Nat.le_of_ble_eq_true rfl⟩ (by simp [cat_rf, cat_i, cat_j]) dX10_insert_72 ?_
          obtain ⟨a21, g22, h⟩ := bind_ok h
          obtain ⟨q23, g24, h⟩ := bind_ok h
          refine k_callV cx iv_X10_66 (ci := 5) rfl (by decide) (w_X5_putIn (dn_some g22).2 g24) g22 (As := [.int p1, va_rf q19.1]) rfl rfl ⟨Nat.le_of_ble_eq_true rfl, Nat.le_of_ble_eq_true rfl⟩ (by simp [cat_rf, cat_i, cat_j]) dX10_insert_75 ?_
          refine k_aload_n cx 1 dX10_insert_78 rfl rfl ?_
          obtain ⟨a25, g26, h⟩ := bind_ok h
          obtain ⟨q27, g28, h⟩ := bind_ok h
          refine k_callV cx iv_X10_70 (ci := 10) rfl (by decide) (w_X10_layOut (dn_some g26).2 g28) g26 (As := []) rfl rfl ⟨Nat.le_of_ble_eq_true rfl, Nat.le_of_ble_eq_true rfl⟩ (by simp [cat_rf, cat_i, cat_j]) dX10_insert_79 ?_
          refine k_aload_n cx 1 dX10_insert_82 rfl rfl ?_
          obtain ⟨a29, g30, h⟩ := bind_ok h
          refine q_getR cx fl_X10_19 g30 dX10_insert_83 ?_
          obtain ⟨a31, g32, h⟩ := bind_ok h
          refine q_getI cx fl_X10_55 g32 dX10_insert_86 ?_
          have h := Option.some.inj h
          exact k_iret cx hr hlk (by rw [← h]) (by rw [← h]) dX10_insert_89
        · have h := ite_f h c10
          refine k_bipush cx (-4) dX10_insert_49 (by decide) ?_
          have h := Option.some.inj h
          exact k_iret cx hr hlk (by rw [← h]) (by rw [← h]) dX10_insert_51
      · have h := ite_f h c9
        refine k_sipush cx (-2000) dX10_insert_31 (by decide) ?_
        refine k_iload_n cx 0 dX10_insert_34 rfl rfl ?_
        refine k_isub cx dX10_insert_35 ?_
        have h := Option.some.inj h
        exact k_iret cx hr hlk (by rw [← h]) (by rw [← h]) dX10_insert_36
    · have h := ite_f h c4
      refine k_bipush cx (-2) dX10_insert_15 (by decide) ?_
      have h := Option.some.inj h
      exact k_iret cx hr hlk (by rw [← h]) (by rw [← h]) dX10_insert_17
set_option maxRecDepth 100000 in
set_option maxHeartbeats 4000000 in
theorem w_X10_replace {Γ : GE} {σ : St} {t : Nat} {p1 : Int32} {ρ : Int32 × St} (hk : hpK σ t = 10) (h : f_X10_replace σ t p1 = some ρ) : Ct Γ yX10_replace cX10_replace 4 (some .int) 7 169 [va_rf (some t), .int p1] σ (some (.int ρ.1)) ρ.2 := by
  refine ct_intro (own := RX10) (L0 := [(0, va_rf (some t)), (1, .int p1)]) (by decide +kernel) rfl (by simp [lg_sl, cat_rf, cat_i, cat_j]) (by simp [lv_args, cat_rf, cat_i, cat_j]) ?_
  intro p l e s m args below meth c hr hlk hin cx
  have hk0 := dn_eq hk
  unfold f_X10_replace at h
  refine k_aload_n cx 0 dX10_replace_0 rfl rfl ?_
  refine q_getR cx fl_X10_19 hk0 dX10_replace_1 ?_
  refine k_iload_n cx 1 dX10_replace_4 rfl rfl ?_
  obtain ⟨a1, g2, h⟩ := bind_ok h
  obtain ⟨q3, g4, h⟩ := bind_ok h
  refine k_callV cx iv_X10_73 (ci := 5) rfl (by decide) (w_X5_lineAt (dn_some g2).2 g4) g2 (As := [.int p1]) rfl rfl ⟨Nat.le_of_ble_eq_true rfl, Nat.le_of_ble_eq_true rfl⟩ (by simp [cat_rf, cat_i, cat_j]) dX10_replace_5 ?_
  refine k_astore_n cx (i := 2) [(2, va_rf q3), (0, va_rf (some t)), (1, .int p1)] dX10_replace_8 rfl (by decide) (by simp [cat_rf, cat_i, cat_j]) ?_
  refine k_aload_n cx 0 dX10_replace_9 rfl rfl ?_
  refine k_ifnonnull cx 16 dX10_replace_10 (by decide) (fun c5 => ?_) (fun a33 c5 => ?_)
  · have h := ite_t h c5
    refine k_bipush cx (-2) dX10_replace_13 (by decide) ?_
    have h := Option.some.inj h
    exact k_iret cx hr hlk (by rw [← h]) (by rw [← h]) dX10_replace_15
  · have h := ite_f h (ne_nn c5)
    refine k_aload_n cx 1 dX10_replace_16 rfl rfl ?_
    refine q_getR cx fl_X10_12 hk0 dX10_replace_17 ?_
    obtain ⟨a6, g7, h⟩ := bind_ok h
    obtain ⟨q8, g9, h⟩ := bind_ok h
    refine k_callV cx iv_X10_52 (ci := 8) rfl (by decide) (w_X8_lineFault (dn_some g7).2 g9) g7 (As := []) rfl rfl ⟨Nat.le_of_ble_eq_true rfl, Nat.le_of_ble_eq_true rfl⟩ (by simp [cat_rf, cat_i, cat_j]) dX10_replace_20 ?_
    refine k_istore_n cx (i := 3) [(3, .int q8), (2, va_rf q3), (0, va_rf (some t)), (1, .int p1)] dX10_replace_23 rfl (by decide) (by simp [cat_rf, cat_i, cat_j]) ?_
    refine k_iload_n cx 0 dX10_replace_24 rfl rfl ?_
    refine k_iconst cx (-1) dX10_replace_25 (by decide) ?_
    refine k_icmp_eq cx 35 dX10_replace_26 (by decide) (fun c10 => ?_) (fun c10 => ?_)
    · have h := ite_t h c10
      refine k_aload_n cx 2 dX10_replace_35 rfl rfl ?_
      refine q_getR cx fl_X10_26 hk0 dX10_replace_36 ?_
      refine k_aload_n cx 2 dX10_replace_39 rfl rfl ?_
      refine q_getR cx fl_X10_19 hk0 dX10_replace_40 ?_
      obtain ⟨a11, g12, h⟩ := bind_ok h
      obtain ⟨q13, g14, h⟩ := bind_ok h
      refine k_callV cx iv_X10_58 (ci := 0) rfl (by decide) (w_X0_keepState (dn_some g12).2 g14) g12 (As := [va_rf (hpR σ 321 t)]) rfl rfl ⟨Nat.le_of_ble_eq_true rfl, Nat.le_of_ble_eq_true rfl⟩ (by simp [cat_rf, cat_i, cat_j]) dX10_replace_43 ?_
      refine k_aload_n cx 2 dX10_replace_46 rfl rfl ?_
      obtain ⟨a15, g16, h⟩ := bind_ok h
      refine q_getR cx fl_X10_19 g16 dX10_replace_47 ?_
      refine k_iload_n cx 3 dX10_replace_50 rfl rfl ?_
      refine k_aload_n cx 2 dX10_replace_51 rfl rfl ?_
      refine q_getR cx fl_X10_12 g16 dX10_replace_52 ?_
      obtain ⟨a17, g18, h⟩ := bind_ok h
      obtain ⟨q19, g20, h⟩ := bind_ok h
      refine k_callV cx iv_X10_62 (ci := 8) rfl (by decide) (w_X8_toLine (dn_some g18).2 g20) g18 (As := []) rfl rfl ⟨Nat.le_of_ble_eq_true rfl, Nat.le_of_ble_eq_true rfl⟩ (by simp [cat_rf, cat_i, cat_j]) dX10_replace_55 ?_
      obtain ⟨a21, g22, h⟩ := bind_ok h
      obtain ⟨q23, g24, h⟩ := bind_ok h
      refine k_callV cx iv_X10_77 (ci := 5) rfl (by decide) (w_X5_exchange (dn_some g22).2 g24) g22 (As := [.int p1, va_rf q19.1]) rfl rfl ⟨Nat.le_of_ble_eq_true rfl, Nat.le_of_ble_eq_true rfl⟩ (by simp [cat_rf, cat_i, cat_j]) dX10_replace_58 ?_
      refine k_aload_n cx 2 dX10_replace_61 rfl rfl ?_
      obtain ⟨a25, g26, h⟩ := bind_ok h
      obtain ⟨q27, g28, h⟩ := bind_ok h
      refine k_callV cx iv_X10_70 (ci := 10) rfl (by decide) (w_X10_layOut (dn_some g26).2 g28) g26 (As := []) rfl rfl ⟨Nat.le_of_ble_eq_true rfl, Nat.le_of_ble_eq_true rfl⟩ (by simp [cat_rf, cat_i, cat_j]) dX10_replace_62 ?_
      refine k_aload_n cx 1 dX10_replace_65 rfl rfl ?_
      obtain ⟨a29, g30, h⟩ := bind_ok h
      refine q_getR cx fl_X10_80 g30 dX10_replace_66 ?_
      obtain ⟨a31, g32, h⟩ := bind_ok h
      refine q_getI cx fl_X10_86 g32 dX10_replace_69 ?_
      have h := Option.some.inj h
      exact k_iret cx hr hlk (by rw [← h]) (by rw [← h]) dX10_replace_72
    · have h := ite_f h c10
      refine k_sipush cx (-2000) dX10_replace_29 (by decide) ?_
      refine k_iload_n cx 0 dX10_replace_32 rfl rfl ?_
      refine k_isub cx dX10_replace_33 ?_
      have h := Option.some.inj h
      exact k_iret cx hr hlk (by rw [← h]) (by rw [← h]) dX10_replace_34
set_option maxRecDepth 100000 in
set_option maxHeartbeats 4000000 in
theorem w_X10_remove {Γ : GE} {σ : St} {t : Nat} {p1 : Int32} {ρ : Int32 × St} (hk : hpK σ t = 10) (h : f_X10_remove σ t p1 = some ρ) : Ct Γ yX10_remove cX10_remove 2 (some .int) 7 169 [va_rf (some t), .int p1] σ (some (.int ρ.1)) ρ.2 := by
  refine ct_intro (own := RX10) (L0 := [(0, va_rf (some t)), (1, .int p1)]) (by decide +kernel) rfl (by simp [lg_sl, cat_rf, cat_i, cat_j]) (by simp [lv_args, cat_rf, cat_i, cat_j]) ?_
  intro p l e s m args below meth c hr hlk hin cx
  have hk0 := dn_eq hk
  unfold f_X10_remove at h
  refine k_aload_n cx 0 dX10_remove_0 rfl rfl ?_
  refine q_getR cx fl_X10_19 hk0 dX10_remove_1 ?_
  refine k_iload_n cx 1 dX10_remove_4 rfl rfl ?_
  obtain ⟨a1, g2, h⟩ := bind_ok h
  obtain ⟨q3, g4, h⟩ := bind_ok h
  refine k_callV cx iv_X10_73 (ci := 5) rfl (by decide) (w_X5_lineAt (dn_some g2).2 g4) g2 (As := [.int p1]) rfl rfl ⟨Nat.le_of_ble_eq_true rfl, Nat.le_of_ble_eq_true rfl⟩ (by simp [cat_rf, cat_i, cat_j]) dX10_remove_5 ?_
  refine k_ifnonnull cx 14 dX10_remove_8 (by decide) (fun c5 => ?_) (fun a24 c5 => ?_)
  · have h := ite_t h c5
    refine k_bipush cx (-2) dX10_remove_11 (by decide) ?_
    have h := Option.some.inj h
    exact k_iret cx hr hlk (by rw [← h]) (by rw [← h]) dX10_remove_13
  · have h := ite_f h (ne_nn c5)
    refine k_aload_n cx 0 dX10_remove_14 rfl rfl ?_
    refine q_getR cx fl_X10_26 hk0 dX10_remove_15 ?_
    refine k_aload_n cx 0 dX10_remove_18 rfl rfl ?_
    refine q_getR cx fl_X10_19 hk0 dX10_remove_19 ?_
    obtain ⟨a6, g7, h⟩ := bind_ok h
    obtain ⟨q8, g9, h⟩ := bind_ok h
    refine k_callV cx iv_X10_58 (ci := 0) rfl (by decide) (w_X0_keepState (dn_some g7).2 g9) g7 (As := [va_rf (hpR σ 321 t)]) rfl rfl ⟨Nat.le_of_ble_eq_true rfl, Nat.le_of_ble_eq_true rfl⟩ (by simp [cat_rf, cat_i, cat_j]) dX10_remove_22 ?_
    refine k_aload_n cx 0 dX10_remove_25 rfl rfl ?_
    obtain ⟨a10, g11, h⟩ := bind_ok h
    refine q_getR cx fl_X10_19 g11 dX10_remove_26 ?_
    refine k_iload_n cx 1 dX10_remove_29 rfl rfl ?_
    obtain ⟨a12, g13, h⟩ := bind_ok h
    obtain ⟨q14, g15, h⟩ := bind_ok h
    refine k_callV cx iv_X10_89 (ci := 5) rfl (by decide) (w_X5_takeOut (dn_some g13).2 g15) g13 (As := [.int p1]) rfl rfl ⟨Nat.le_of_ble_eq_true rfl, Nat.le_of_ble_eq_true rfl⟩ (by simp [cat_rf, cat_i, cat_j]) dX10_remove_30 ?_
    refine k_aload_n cx 0 dX10_remove_33 rfl rfl ?_
    obtain ⟨a16, g17, h⟩ := bind_ok h
    obtain ⟨q18, g19, h⟩ := bind_ok h
    refine k_callV cx iv_X10_70 (ci := 10) rfl (by decide) (w_X10_layOut (dn_some g17).2 g19) g17 (As := []) rfl rfl ⟨Nat.le_of_ble_eq_true rfl, Nat.le_of_ble_eq_true rfl⟩ (by simp [cat_rf, cat_i, cat_j]) dX10_remove_34 ?_
    refine k_aload_n cx 0 dX10_remove_37 rfl rfl ?_
    obtain ⟨a20, g21, h⟩ := bind_ok h
    refine q_getR cx fl_X10_19 g21 dX10_remove_38 ?_
    obtain ⟨a22, g23, h⟩ := bind_ok h
    refine q_getI cx fl_X10_55 g23 dX10_remove_41 ?_
    have h := Option.some.inj h
    exact k_iret cx hr hlk (by rw [← h]) (by rw [← h]) dX10_remove_44
set_option maxRecDepth 100000 in
set_option maxHeartbeats 4000000 in
theorem w_X10_move {Γ : GE} {σ : St} {t : Nat} {p1 : Int32} {p2 : Int32} {p3 : Int32} {ρ : Int32 × St} (hk : hpK σ t = 10) (h : f_X10_move σ t p1 p2 p3 = some ρ) : Ct Γ yX10_move cX10_move 5 (some .int) 7 169 [va_rf (some t), .int p1, .int p2, .int p3] σ (some (.int ρ.1)) ρ.2 := by
  refine ct_intro (own := RX10) (L0 := [(0, va_rf (some t)), (1, .int p1), (2, .int p2), (3, .int p3)]) (by decide +kernel) rfl (by simp [lg_sl, cat_rf, cat_i, cat_j]) (by simp [lv_args, cat_rf, cat_i, cat_j]) ?_
  intro p l e s m args below meth c hr hlk hin cx
  have hk0 := dn_eq hk
  unfold f_X10_move at h
  refine k_iload_n cx 2 dX10_move_0 rfl rfl ?_
  refine k_iconst cx 1 dX10_move_1 (by decide) ?_
  refine k_icmp_lt cx 16 dX10_move_2 (by decide) (fun c1 => ?_) (fun c1 => ?_)
  · have h := ite_t h c1
    refine k_bipush cx (-2) dX10_move_16 (by decide) ?_
    have h := Option.some.inj h
    exact k_iret cx hr hlk (by rw [← h]) (by rw [← h]) dX10_move_18
  · have h := ite_f h c1
    refine k_iload_n cx 2 dX10_move_5 rfl rfl ?_
    refine k_aload_n cx 0 dX10_move_6 rfl rfl ?_
    refine q_getR cx fl_X10_19 hk0 dX10_move_7 ?_
    obtain ⟨a2, g3, h⟩ := bind_ok h
    refine q_getI cx fl_X10_55 g3 dX10_move_10 ?_
    refine k_icmp_le cx 19 dX10_move_13 (by decide) (fun c4 => ?_) (fun c4 => ?_)
    · have h := ite_t h c4
      refine k_aload_n cx 0 dX10_move_19 rfl rfl ?_
      refine q_getR cx fl_X10_19 hk0 dX10_move_20 ?_
      refine q_getI cx fl_X10_55 g3 dX10_move_23 ?_
      refine k_iload_n cx 2 dX10_move_26 rfl rfl ?_
      refine k_isub cx dX10_move_27 ?_
      refine k_istore cx [(4, .int ((hpI σ 162 a2) - p2)), (0, va_rf (some t)), (1, .int p1), (2, .int p2), (3, .int p3)] dX10_move_28 (by decide) (by simp [cat_rf, cat_i, cat_j]) ?_
      refine k_iload_n cx 2 dX10_move_30 rfl rfl ?_
      refine k_if_lt cx 50 dX10_move_31 (by decide) (fun c5 => ?_) (fun c5 => ?_)
      · have h := ite_t h c5
        refine k_bipush cx (-2) dX10_move_50 (by decide) ?_
        have h := Option.some.inj h
        exact k_iret cx hr hlk (by rw [← h]) (by rw [← h]) dX10_move_52
      · have h := ite_f h c5
        refine k_iload_n cx 2 dX10_move_34 rfl rfl ?_
        refine k_iload cx 0 dX10_move_35 rfl ?_
        refine k_icmp_gt cx 50 dX10_move_37 (by decide) (fun c6 => ?_) (fun c6 => ?_)
        · have h := ite_t h c6
          refine k_bipush cx (-2) dX10_move_50 (by decide) ?_
          have h := Option.some.inj h
          exact k_iret cx hr hlk (by rw [← h]) (by rw [← h]) dX10_move_52
        · have h := ite_f h c6
          refine k_iload_n cx 4 dX10_move_40 rfl rfl ?_
          refine k_if_lt cx 50 dX10_move_41 (by decide) (fun c7 => ?_) (fun c7 => ?_)
          · have h := ite_t h c7
            refine k_bipush cx (-2) dX10_move_50 (by decide) ?_
            have h := Option.some.inj h
            exact k_iret cx hr hlk (by rw [← h]) (by rw [← h]) dX10_move_52
          · have h := ite_f h c7
            refine k_iload_n cx 4 dX10_move_44 rfl rfl ?_
            refine k_iload cx 0 dX10_move_45 rfl ?_
            refine k_icmp_le cx 53 dX10_move_47 (by decide) (fun c8 => ?_) (fun c8 => ?_)
            · have h := ite_t h c8
              refine k_aload_n cx 1 dX10_move_53 rfl rfl ?_
              refine q_getR cx fl_X10_26 hk0 dX10_move_54 ?_
              refine k_aload_n cx 1 dX10_move_57 rfl rfl ?_
              refine q_getR cx fl_X10_19 hk0 dX10_move_58 ?_
              obtain ⟨a9, g10, h⟩ := bind_ok h
              obtain ⟨q11, g12, h⟩ := bind_ok h
              refine k_callV cx iv_X10_58 (ci := 0) rfl (by decide) (w_X0_keepState (dn_some g10).2 g12) g10 (As := [va_rf (hpR σ 321 t)]) rfl rfl ⟨Nat.le_of_ble_eq_true rfl, Nat.le_of_ble_eq_true rfl⟩ (by simp [cat_rf, cat_i, cat_j]) dX10_move_61 ?_
              refine k_aload_n cx 1 dX10_move_64 rfl rfl ?_
              obtain ⟨a13, g14, h⟩ := bind_ok h
              refine q_getR cx fl_X10_19 g14 dX10_move_65 ?_
              refine k_iload_n cx 2 dX10_move_68 rfl rfl ?_
              refine k_iload_n cx 3 dX10_move_69 rfl rfl ?_
              refine k_iload_n cx 4 dX10_move_70 rfl rfl ?_
              obtain ⟨a15, g16, h⟩ := bind_ok h
              obtain ⟨q17, g18, h⟩ := bind_ok h
              refine k_callV cx iv_X10_92 (ci := 5) rfl (by decide) (w_X5_moveLines (dn_some g16).2 g18) g16 (As := [.int p1, .int p2, .int p3]) rfl rfl ⟨Nat.le_of_ble_eq_true rfl, Nat.le_of_ble_eq_true rfl⟩ (by simp [cat_rf, cat_i, cat_j]) dX10_move_71 ?_
              refine k_aload_n cx 1 dX10_move_74 rfl rfl ?_
              obtain ⟨a19, g20, h⟩ := bind_ok h
              obtain ⟨q21, g22, h⟩ := bind_ok h
              refine k_callV cx iv_X10_70 (ci := 10) rfl (by decide) (w_X10_layOut (dn_some g20).2 g22) g20 (As := []) rfl rfl ⟨Nat.le_of_ble_eq_true rfl, Nat.le_of_ble_eq_true rfl⟩ (by simp [cat_rf, cat_i, cat_j]) dX10_move_75 ?_
              refine k_aload_n cx 1 dX10_move_78 rfl rfl ?_
              obtain ⟨a23, g24, h⟩ := bind_ok h
              refine q_getR cx fl_X10_33 g24 dX10_move_79 ?_
              obtain ⟨a25, g26, h⟩ := bind_ok h
              refine q_getI cx fl_X10_96 g26 dX10_move_82 ?_
              have h := Option.some.inj h
              exact k_iret cx hr hlk (by rw [← h]) (by rw [← h]) dX10_move_85
            · have h := ite_f h c8
              refine k_bipush cx (-2) dX10_move_50 (by decide) ?_
              have h := Option.some.inj h
              exact k_iret cx hr hlk (by rw [← h]) (by rw [← h]) dX10_move_52
    · have h := ite_f h c4
      refine k_bipush cx (-2) dX10_move_16 (by decide) ?_
      have h := Option.some.inj h
      exact k_iret cx hr hlk (by rw [← h]) (by rw [← h]) dX10_move_18
set_option maxRecDepth 100000 in
set_option maxHeartbeats 4000000 in
theorem w_X10_toggle {Γ : GE} {σ : St} {t : Nat} {p1 : Int32} {p2 : Int32} {ρ : Int32 × St} (hk : hpK σ t = 10) (h : f_X10_toggle σ t p1 p2 = some ρ) : Ct Γ yX10_toggle cX10_toggle 6 (some .int) 7 169 [va_rf (some t), .int p1, .int p2] σ (some (.int ρ.1)) ρ.2 := by
  refine ct_intro (own := RX10) (L0 := [(0, va_rf (some t)), (1, .int p1), (2, .int p2)]) (by decide +kernel) rfl (by simp [lg_sl, cat_rf, cat_i, cat_j]) (by simp [lv_args, cat_rf, cat_i, cat_j]) ?_
  intro p l e s m args below meth c hr hlk hin cx
  have hk0 := dn_eq hk
  unfold f_X10_toggle at h
  refine k_aload_n cx 0 dX10_toggle_0 rfl rfl ?_
  refine q_getR cx fl_X10_19 hk0 dX10_toggle_1 ?_
  refine k_iload_n cx 1 dX10_toggle_4 rfl rfl ?_
  obtain ⟨a1, g2, h⟩ := bind_ok h
  obtain ⟨q3, g4, h⟩ := bind_ok h
  refine k_callV cx iv_X10_73 (ci := 5) rfl (by decide) (w_X5_lineAt (dn_some g2).2 g4) g2 (As := [.int p1]) rfl rfl ⟨Nat.le_of_ble_eq_true rfl, Nat.le_of_ble_eq_true rfl⟩ (by simp [cat_rf, cat_i, cat_j]) dX10_toggle_5 ?_
  refine k_astore_n cx (i := 3) [(3, va_rf q3), (0, va_rf (some t)), (1, .int p1), (2, .int p2)] dX10_toggle_8 rfl (by decide) (by simp [cat_rf, cat_i, cat_j]) ?_
  refine k_aload_n cx 0 dX10_toggle_9 rfl rfl ?_
  refine k_ifnonnull cx 16 dX10_toggle_10 (by decide) (fun c5 => ?_) (fun a46 c5 => ?_)
  · have h := ite_t h c5
    refine k_bipush cx (-2) dX10_toggle_13 (by decide) ?_
    have h := Option.some.inj h
    exact k_iret cx hr hlk (by rw [← h]) (by rw [← h]) dX10_toggle_15
  · have h := ite_f h (ne_nn c5)
    refine k_aload_n cx 1 dX10_toggle_16 rfl rfl ?_
    refine q_getR cx fl_X10_26 hk0 dX10_toggle_17 ?_
    refine k_aload_n cx 1 dX10_toggle_20 rfl rfl ?_
    refine q_getR cx fl_X10_19 hk0 dX10_toggle_21 ?_
    obtain ⟨a6, g7, h⟩ := bind_ok h
    obtain ⟨q8, g9, h⟩ := bind_ok h
    refine k_callV cx iv_X10_58 (ci := 0) rfl (by decide) (w_X0_keepState (dn_some g7).2 g9) g7 (As := [va_rf (hpR σ 321 t)]) rfl rfl ⟨Nat.le_of_ble_eq_true rfl, Nat.le_of_ble_eq_true rfl⟩ (by simp [cat_rf, cat_i, cat_j]) dX10_toggle_24 ?_
    refine k_iload_n cx 3 dX10_toggle_27 rfl rfl ?_
    obtain ⟨x10, hxx10, h⟩ := bind_ok h
    have Kx10 : Og p l e s m args below meth c Γ 6 7 169 σ (some (.int ρ.1)) ρ.2 50 [(0, va_rf (some t)), (1, .int p1), (2, .int p2), (3, va_rf q3)] [.int x10] q8 := by
      refine k_istore cx [(4, .int x10), (0, va_rf (some t)), (1, .int p1), (2, .int p2), (3, va_rf q3)] dX10_toggle_50 (by decide) (by simp [cat_rf, cat_i, cat_j]) ?_
      refine k_iload_n cx 3 dX10_toggle_52 rfl rfl ?_
      obtain ⟨x17, hxx17, h⟩ := bind_ok h
      have Kx17 : Og p l e s m args below meth c Γ 6 7 169 σ (some (.int ρ.1)) ρ.2 75 [(0, va_rf (some t)), (1, .int p1), (2, .int p2), (3, va_rf q3), (4, .int x10)] [.int x17] q8 := by
        refine k_istore cx [(5, .int x17), (0, va_rf (some t)), (1, .int p1), (2, .int p2), (3, va_rf q3), (4, .int x10)] dX10_toggle_75 (by decide) (by simp [cat_rf, cat_i, cat_j]) ?_
        refine k_aload_n cx 1 dX10_toggle_77 rfl rfl ?_
        obtain ⟨a24, g25, h⟩ := bind_ok h
        refine q_getR cx fl_X10_19 g25 dX10_toggle_78 ?_
        refine k_iload_n cx 2 dX10_toggle_81 rfl rfl ?_
        obtain ⟨σ26, g27, h⟩ := bind_ok h
        refine k_new cx nw_X10_81 g27 dX10_toggle_82 ?_
        refine k_dup cx (by simp [cat_rf, cat_i, cat_j]) dX10_toggle_85 ?_
        refine k_aload_n cx 4 dX10_toggle_86 rfl rfl ?_
        obtain ⟨a28, g29, h⟩ := bind_ok h
        refine q_getR cx fl_X10_80 g29 dX10_toggle_87 ?_
        refine k_aload_n cx 4 dX10_toggle_90 rfl rfl ?_
        refine q_getI cx fl_X10_106 g29 dX10_toggle_91 ?_
        refine k_iload cx 5 dX10_toggle_94 rfl ?_
        refine k_iload cx 0 dX10_toggle_96 rfl ?_
        obtain ⟨a30, g31, h⟩ := bind_ok h
        obtain ⟨q32, g33, h⟩ := bind_ok h
        refine k_callI cx iv_X10_109 (w_X2_init (dn_some g31).2 g33) (dn_some g31).1 (As := [va_rf (hpR σ26 64 a28), .int (hpI σ26 65 a28), .int x10, .int x17]) rfl rfl ⟨Nat.le_of_ble_eq_true rfl, Nat.le_of_ble_eq_true rfl⟩ (by simp [cat_rf, cat_i, cat_j]) dX10_toggle_98 ?_
        obtain ⟨a34, g35, h⟩ := bind_ok h
        obtain ⟨q36, g37, h⟩ := bind_ok h
        refine k_callV cx iv_X10_77 (ci := 5) rfl (by decide) (w_X5_exchange (dn_some g35).2 g37) g35 (As := [.int p1, va_rf (some (hpN q8))]) rfl rfl ⟨Nat.le_of_ble_eq_true rfl, Nat.le_of_ble_eq_true rfl⟩ (by simp [cat_rf, cat_i, cat_j]) dX10_toggle_101 ?_
        refine k_aload_n cx 1 dX10_toggle_104 rfl rfl ?_
        obtain ⟨a38, g39, h⟩ := bind_ok h
        obtain ⟨q40, g41, h⟩ := bind_ok h
        refine k_callV cx iv_X10_70 (ci := 10) rfl (by decide) (w_X10_layOut (dn_some g39).2 g41) g39 (As := []) rfl rfl ⟨Nat.le_of_ble_eq_true rfl, Nat.le_of_ble_eq_true rfl⟩ (by simp [cat_rf, cat_i, cat_j]) dX10_toggle_105 ?_
        refine k_iload_n cx 3 dX10_toggle_108 rfl rfl ?_
        obtain ⟨x42, hxx42, h⟩ := bind_ok h
        have Kx42 : Og p l e s m args below meth c Γ 6 7 169 σ (some (.int ρ.1)) ρ.2 119 [] [.int x42] q40 := by
          obtain ⟨q44, g45, h⟩ := bind_ok h
          refine k_callS cx iv_X10_112 (w_X10_oneIf g45) (As := [.int x42]) rfl rfl ⟨Nat.le_of_ble_eq_true rfl, Nat.le_of_ble_eq_true rfl⟩ (by simp [cat_rf, cat_i, cat_j]) dX10_toggle_119 ?_
          have h := Option.some.inj h
          exact k_iret cx hr hlk (by rw [← h]) (by rw [← h]) dX10_toggle_122
        have h := hxx42
        refine k_if_eq cx 117 dX10_toggle_109 (by decide) (fun c43 => ?_) (fun c43 => ?_)
        · have h := ite_t h c43
          refine k_iload cx 0 dX10_toggle_117 rfl ?_
          refine k_sub [] rfl ?_
          obtain rfl := Option.some.inj h
          exact Kx42
        · have h := ite_f h c43
          refine k_iload cx 5 dX10_toggle_112 rfl ?_
          refine k_goto cx 119 dX10_toggle_114 (by decide) ?_
          refine k_sub [] rfl ?_
          obtain rfl := Option.some.inj h
          exact Kx42
      have h := hxx17
      refine k_if_eq cx 63 dX10_toggle_53 (by decide) (fun c18 => ?_) (fun c18 => ?_)
      · have h := ite_t h c18
        refine k_aload_n cx 4 dX10_toggle_63 rfl rfl ?_
        obtain ⟨a19, g20, h⟩ := bind_ok h
        refine q_getI cx fl_X10_103 g20 dX10_toggle_64 ?_
        refine k_if_ne cx 74 dX10_toggle_67 (by decide) (fun c21 => ?_) (fun c21 => ?_)
        · have h := ite_t h c21
          refine k_iconst cx 0 dX10_toggle_74 (by decide) ?_
          refine k_sub [1, 2, 3, 4, 0] rfl ?_
          obtain rfl := Option.some.inj h
          exact Kx17
        · have h := ite_f h c21
          refine k_iconst cx 1 dX10_toggle_70 (by decide) ?_
          refine k_goto cx 75 dX10_toggle_71 (by decide) ?_
          refine k_sub [1, 2, 3, 4, 0] rfl ?_
          obtain rfl := Option.some.inj h
          exact Kx17
      · have h := ite_f h c18
        refine k_aload_n cx 4 dX10_toggle_56 rfl rfl ?_
        obtain ⟨a22, g23, h⟩ := bind_ok h
        refine q_getI cx fl_X10_103 g23 dX10_toggle_57 ?_
        refine k_goto cx 75 dX10_toggle_60 (by decide) ?_
        refine k_sub [1, 2, 3, 4, 0] rfl ?_
        obtain rfl := Option.some.inj h
        exact Kx17
    have h := hxx10
    refine k_if_eq cx 46 dX10_toggle_28 (by decide) (fun c11 => ?_) (fun c11 => ?_)
    · have h := ite_t h c11
      refine k_aload_n cx 0 dX10_toggle_46 rfl rfl ?_
      obtain ⟨a12, g13, h⟩ := bind_ok h
      refine q_getI cx fl_X10_99 g13 dX10_toggle_47 ?_
      refine k_sub [1, 2, 3, 0] rfl ?_
      obtain rfl := Option.some.inj h
      exact Kx10
    · have h := ite_f h c11
      refine k_aload_n cx 0 dX10_toggle_31 rfl rfl ?_
      obtain ⟨a14, g15, h⟩ := bind_ok h
      refine q_getI cx fl_X10_99 g15 dX10_toggle_32 ?_
      refine k_if_ne cx 42 dX10_toggle_35 (by decide) (fun c16 => ?_) (fun c16 => ?_)
      · have h := ite_t h c16
        refine k_iconst cx 0 dX10_toggle_42 (by decide) ?_
        refine k_goto cx 50 dX10_toggle_43 (by decide) ?_
        refine k_sub [1, 2, 3, 0] rfl ?_
        obtain rfl := Option.some.inj h
        exact Kx10
      · have h := ite_f h c16
        refine k_iconst cx 1 dX10_toggle_38 (by decide) ?_
        refine k_goto cx 50 dX10_toggle_39 (by decide) ?_
        refine k_sub [1, 2, 3, 0] rfl ?_
        obtain rfl := Option.some.inj h
        exact Kx10
set_option maxRecDepth 100000 in
set_option maxHeartbeats 4000000 in
theorem w_X10_line {Γ : GE} {σ : St} {t : Nat} {p1 : Int32} {p2 : Int32} {ρ : Int32} (hk : hpK σ t = 10) (h : f_X10_line σ t p1 p2 = some ρ) : Ct Γ yX10_line cX10_line 5 (some .int) 1 21 [va_rf (some t), .int p1, .int p2] σ (some (.int ρ)) σ := by
  refine ct_intro (own := RX10) (L0 := [(0, va_rf (some t)), (1, .int p1), (2, .int p2)]) (by decide +kernel) rfl (by simp [lg_sl, cat_rf, cat_i, cat_j]) (by simp [lv_args, cat_rf, cat_i, cat_j]) ?_
  intro p l e s m args below meth c hr hlk hin cx
  have hk0 := dn_eq hk
  unfold f_X10_line at h
  refine k_aload_n cx 0 dX10_line_0 rfl rfl ?_
  refine q_getR cx fl_X10_19 hk0 dX10_line_1 ?_
  refine k_iload_n cx 1 dX10_line_4 rfl rfl ?_
  obtain ⟨a1, g2, h⟩ := bind_ok h
  obtain ⟨q3, g4, h⟩ := bind_ok h
  refine k_callV cx iv_X10_73 (ci := 5) rfl (by decide) (w_X5_lineAt (dn_some g2).2 g4) g2 (As := [.int p1]) rfl rfl ⟨Nat.le_of_ble_eq_true rfl, Nat.le_of_ble_eq_true rfl⟩ (by simp [cat_rf, cat_i, cat_j]) dX10_line_5 ?_
  refine k_astore_n cx (i := 3) [(3, va_rf q3), (0, va_rf (some t)), (1, .int p1), (2, .int p2)] dX10_line_8 rfl (by decide) (by simp [cat_rf, cat_i, cat_j]) ?_
  refine k_aload_n cx 1 dX10_line_9 rfl rfl ?_
  refine q_getR cx fl_X10_33 hk0 dX10_line_10 ?_
  refine k_iload_n cx 2 dX10_line_13 rfl rfl ?_
  obtain ⟨a5, g6, h⟩ := bind_ok h
  obtain ⟨q7, g8, h⟩ := bind_ok h
  refine k_callV cx iv_X10_116 (ci := 1) rfl (by decide) (w_X1_spanAt (dn_some g6).2 g8) g6 (As := [.int p1]) rfl rfl ⟨Nat.le_of_ble_eq_true rfl, Nat.le_of_ble_eq_true rfl⟩ (by simp [cat_rf, cat_i, cat_j]) dX10_line_14 ?_
  refine k_astore cx [(4, va_rf q7), (3, va_rf q3), (0, va_rf (some t)), (1, .int p1), (2, .int p2)] dX10_line_17 (by decide) (by simp [cat_rf, cat_i, cat_j]) ?_
  refine k_aload_n cx 1 dX10_line_19 rfl rfl ?_
  refine k_ifnull cx 28 dX10_line_20 (by decide) (fun c9 => ?_) (fun a42 c9 => ?_)
  · have h := ite_t h c9
    refine k_bipush cx (-2) dX10_line_28 (by decide) ?_
    have h := Option.some.inj h
    exact k_iret cx hr hlk (by rw [← h]) rfl dX10_line_30
  · have h := ite_f h (ne_nn c9)
    refine k_aload cx 0 dX10_line_23 rfl ?_
    refine k_ifnonnull cx 31 dX10_line_25 (by decide) (fun c10 => ?_) (fun a41 c10 => ?_)
    · have h := ite_t h c10
      refine k_bipush cx (-2) dX10_line_28 (by decide) ?_
      have h := Option.some.inj h
      exact k_iret cx hr hlk (by rw [← h]) rfl dX10_line_30
    · have h := ite_f h (ne_nn c10)
      refine k_iload_n cx 4 dX10_line_31 rfl rfl ?_
      refine k_switch cx dX10_line_32 (by decide) (fun hs => ?_) (by decide) (fun k off ho hs => ?_)
      · have h0 : ¬ p2 = 0 := fun q => by rw [q] at hs; revert hs; decide
        have h1 : ¬ p2 = 1 := fun q => by rw [q] at hs; revert hs; decide
        have h2 : ¬ p2 = 2 := fun q => by rw [q] at hs; revert hs; decide
        have h3 : ¬ p2 = 3 := fun q => by rw [q] at hs; revert hs; decide
        have h4 : ¬ p2 = 4 := fun q => by rw [q] at hs; revert hs; decide
        have h5 : ¬ p2 = 5 := fun q => by rw [q] at hs; revert hs; decide
        have h6 : ¬ p2 = 6 := fun q => by rw [q] at hs; revert hs; decide
        have h7 : ¬ p2 = 7 := fun q => by rw [q] at hs; revert hs; decide
        have h8 : ¬ p2 = 8 := fun q => by rw [q] at hs; revert hs; decide
        have h9 : ¬ p2 = 9 := fun q => by rw [q] at hs; revert hs; decide
        have h := ite_f h h0
        have h := ite_f h h1
        have h := ite_f h h2
        have h := ite_f h h3
        have h := ite_f h h4
        have h := ite_f h h5
        have h := ite_f h h6
        have h := ite_f h h7
        have h := ite_f h h8
        have h := ite_f h h9
        refine k_bipush cx (-2) dX10_line_158 (by decide) ?_
        have h := Option.some.inj h
        exact k_iret cx hr hlk (by rw [← h]) rfl dX10_line_160
      · match k, ho with
        | 0, ho =>
          cases ho
          have hv : p2 = 0 := Int32.toInt_inj.mp (by rw [hs]; rfl)
          have h := ite_t h hv
          refine ⟨by decide, ?_⟩
          refine k_aload_n cx 1 dX10_line_88 rfl rfl ?_
          obtain ⟨a11, g12, h⟩ := bind_ok h
          refine q_getR cx fl_X10_80 g12 dX10_line_89 ?_
          obtain ⟨a13, g14, h⟩ := bind_ok h
          refine q_getI cx fl_X10_120 g14 dX10_line_92 ?_
          have h := Option.some.inj h
          exact k_iret cx hr hlk (by rw [← h]) rfl dX10_line_95
        | 1, ho =>
          cases ho
          have hv : p2 = 1 := Int32.toInt_inj.mp (by rw [hs]; rfl)
          have h := ite_f h (show ¬ p2 = 0 from fun q => by rw [hv] at q; revert q; decide)
          have h := ite_t h hv
          refine ⟨by decide, ?_⟩
          refine k_aload_n cx 1 dX10_line_96 rfl rfl ?_
          obtain ⟨a15, g16, h⟩ := bind_ok h
          refine q_getR cx fl_X10_80 g16 dX10_line_97 ?_
          obtain ⟨a17, g18, h⟩ := bind_ok h
          refine q_getI cx fl_X10_86 g18 dX10_line_100 ?_
          have h := Option.some.inj h
          exact k_iret cx hr hlk (by rw [← h]) rfl dX10_line_103
        | 2, ho =>
          cases ho
          have hv : p2 = 2 := Int32.toInt_inj.mp (by rw [hs]; rfl)
          have h := ite_f h (show ¬ p2 = 0 from fun q => by rw [hv] at q; revert q; decide)
          have h := ite_f h (show ¬ p2 = 1 from fun q => by rw [hv] at q; revert q; decide)
          have h := ite_t h hv
          refine ⟨by decide, ?_⟩
          refine k_aload_n cx 1 dX10_line_104 rfl rfl ?_
          obtain ⟨a19, g20, h⟩ := bind_ok h
          refine q_getI cx fl_X10_106 g20 dX10_line_105 ?_
          have h := Option.some.inj h
          exact k_iret cx hr hlk (by rw [← h]) rfl dX10_line_108
        | 3, ho =>
          cases ho
          have hv : p2 = 3 := Int32.toInt_inj.mp (by rw [hs]; rfl)
          have h := ite_f h (show ¬ p2 = 0 from fun q => by rw [hv] at q; revert q; decide)
          have h := ite_f h (show ¬ p2 = 1 from fun q => by rw [hv] at q; revert q; decide)
          have h := ite_f h (show ¬ p2 = 2 from fun q => by rw [hv] at q; revert q; decide)
          have h := ite_t h hv
          refine ⟨by decide, ?_⟩
          refine k_aload_n cx 1 dX10_line_109 rfl rfl ?_
          obtain ⟨a21, g22, h⟩ := bind_ok h
          refine q_getI cx fl_X10_99 g22 dX10_line_110 ?_
          obtain ⟨q23, g24, h⟩ := bind_ok h
          refine k_callS cx iv_X10_112 (w_X10_oneIf g24) (As := [.int (hpI σ 66 a21)]) rfl rfl ⟨Nat.le_of_ble_eq_true rfl, Nat.le_of_ble_eq_true rfl⟩ (by simp [cat_rf, cat_i, cat_j]) dX10_line_113 ?_
          have h := Option.some.inj h
          exact k_iret cx hr hlk (by rw [← h]) rfl dX10_line_116
        | 4, ho =>
          cases ho
          have hv : p2 = 4 := Int32.toInt_inj.mp (by rw [hs]; rfl)
          have h := ite_f h (show ¬ p2 = 0 from fun q => by rw [hv] at q; revert q; decide)
          have h := ite_f h (show ¬ p2 = 1 from fun q => by rw [hv] at q; revert q; decide)
          have h := ite_f h (show ¬ p2 = 2 from fun q => by rw [hv] at q; revert q; decide)
          have h := ite_f h (show ¬ p2 = 3 from fun q => by rw [hv] at q; revert q; decide)
          have h := ite_t h hv
          refine ⟨by decide, ?_⟩
          refine k_aload cx 0 dX10_line_117 rfl ?_
          obtain ⟨a25, g26, h⟩ := bind_ok h
          refine q_getI cx fl_X10_123 g26 dX10_line_119 ?_
          obtain ⟨q27, g28, h⟩ := bind_ok h
          refine k_callS cx iv_X10_112 (w_X10_oneIf g28) (As := [.int (hpI σ 96 a25)]) rfl rfl ⟨Nat.le_of_ble_eq_true rfl, Nat.le_of_ble_eq_true rfl⟩ (by simp [cat_rf, cat_i, cat_j]) dX10_line_122 ?_
          have h := Option.some.inj h
          exact k_iret cx hr hlk (by rw [← h]) rfl dX10_line_125
        | 5, ho =>
          cases ho
          have hv : p2 = 5 := Int32.toInt_inj.mp (by rw [hs]; rfl)
          have h := ite_f h (show ¬ p2 = 0 from fun q => by rw [hv] at q; revert q; decide)
          have h := ite_f h (show ¬ p2 = 1 from fun q => by rw [hv] at q; revert q; decide)
          have h := ite_f h (show ¬ p2 = 2 from fun q => by rw [hv] at q; revert q; decide)
          have h := ite_f h (show ¬ p2 = 3 from fun q => by rw [hv] at q; revert q; decide)
          have h := ite_f h (show ¬ p2 = 4 from fun q => by rw [hv] at q; revert q; decide)
          have h := ite_t h hv
          refine ⟨by decide, ?_⟩
          refine k_aload_n cx 1 dX10_line_126 rfl rfl ?_
          obtain ⟨a29, g30, h⟩ := bind_ok h
          refine q_getI cx fl_X10_103 g30 dX10_line_127 ?_
          obtain ⟨q31, g32, h⟩ := bind_ok h
          refine k_callS cx iv_X10_112 (w_X10_oneIf g32) (As := [.int (hpI σ 67 a29)]) rfl rfl ⟨Nat.le_of_ble_eq_true rfl, Nat.le_of_ble_eq_true rfl⟩ (by simp [cat_rf, cat_i, cat_j]) dX10_line_130 ?_
          have h := Option.some.inj h
          exact k_iret cx hr hlk (by rw [← h]) rfl dX10_line_133
        | 6, ho =>
          cases ho
          have hv : p2 = 6 := Int32.toInt_inj.mp (by rw [hs]; rfl)
          have h := ite_f h (show ¬ p2 = 0 from fun q => by rw [hv] at q; revert q; decide)
          have h := ite_f h (show ¬ p2 = 1 from fun q => by rw [hv] at q; revert q; decide)
          have h := ite_f h (show ¬ p2 = 2 from fun q => by rw [hv] at q; revert q; decide)
          have h := ite_f h (show ¬ p2 = 3 from fun q => by rw [hv] at q; revert q; decide)
          have h := ite_f h (show ¬ p2 = 4 from fun q => by rw [hv] at q; revert q; decide)
          have h := ite_f h (show ¬ p2 = 5 from fun q => by rw [hv] at q; revert q; decide)
          have h := ite_t h hv
          refine ⟨by decide, ?_⟩
          refine k_aload cx 0 dX10_line_134 rfl ?_
          obtain ⟨a33, g34, h⟩ := bind_ok h
          refine q_getI cx fl_X10_128 g34 dX10_line_136 ?_
          have h := Option.some.inj h
          exact k_iret cx hr hlk (by rw [← h]) rfl dX10_line_139
        | 7, ho =>
          cases ho
          have hv : p2 = 7 := Int32.toInt_inj.mp (by rw [hs]; rfl)
          have h := ite_f h (show ¬ p2 = 0 from fun q => by rw [hv] at q; revert q; decide)
          have h := ite_f h (show ¬ p2 = 1 from fun q => by rw [hv] at q; revert q; decide)
          have h := ite_f h (show ¬ p2 = 2 from fun q => by rw [hv] at q; revert q; decide)
          have h := ite_f h (show ¬ p2 = 3 from fun q => by rw [hv] at q; revert q; decide)
          have h := ite_f h (show ¬ p2 = 4 from fun q => by rw [hv] at q; revert q; decide)
          have h := ite_f h (show ¬ p2 = 5 from fun q => by rw [hv] at q; revert q; decide)
          have h := ite_f h (show ¬ p2 = 6 from fun q => by rw [hv] at q; revert q; decide)
          have h := ite_t h hv
          refine ⟨by decide, ?_⟩
          refine k_aload cx 0 dX10_line_140 rfl ?_
          obtain ⟨a35, g36, h⟩ := bind_ok h
          refine q_getI cx fl_X10_131 g36 dX10_line_142 ?_
          have h := Option.some.inj h
          exact k_iret cx hr hlk (by rw [← h]) rfl dX10_line_145
        | 8, ho =>
          cases ho
          have hv : p2 = 8 := Int32.toInt_inj.mp (by rw [hs]; rfl)
          have h := ite_f h (show ¬ p2 = 0 from fun q => by rw [hv] at q; revert q; decide)
          have h := ite_f h (show ¬ p2 = 1 from fun q => by rw [hv] at q; revert q; decide)
          have h := ite_f h (show ¬ p2 = 2 from fun q => by rw [hv] at q; revert q; decide)
          have h := ite_f h (show ¬ p2 = 3 from fun q => by rw [hv] at q; revert q; decide)
          have h := ite_f h (show ¬ p2 = 4 from fun q => by rw [hv] at q; revert q; decide)
          have h := ite_f h (show ¬ p2 = 5 from fun q => by rw [hv] at q; revert q; decide)
          have h := ite_f h (show ¬ p2 = 6 from fun q => by rw [hv] at q; revert q; decide)
          have h := ite_f h (show ¬ p2 = 7 from fun q => by rw [hv] at q; revert q; decide)
          have h := ite_t h hv
          refine ⟨by decide, ?_⟩
          refine k_aload cx 0 dX10_line_146 rfl ?_
          obtain ⟨a37, g38, h⟩ := bind_ok h
          refine q_getI cx fl_X10_134 g38 dX10_line_148 ?_
          have h := Option.some.inj h
          exact k_iret cx hr hlk (by rw [← h]) rfl dX10_line_151
        | 9, ho =>
          cases ho
          have hv : p2 = 9 := Int32.toInt_inj.mp (by rw [hs]; rfl)
          have h := ite_f h (show ¬ p2 = 0 from fun q => by rw [hv] at q; revert q; decide)
          have h := ite_f h (show ¬ p2 = 1 from fun q => by rw [hv] at q; revert q; decide)
          have h := ite_f h (show ¬ p2 = 2 from fun q => by rw [hv] at q; revert q; decide)
          have h := ite_f h (show ¬ p2 = 3 from fun q => by rw [hv] at q; revert q; decide)
          have h := ite_f h (show ¬ p2 = 4 from fun q => by rw [hv] at q; revert q; decide)
          have h := ite_f h (show ¬ p2 = 5 from fun q => by rw [hv] at q; revert q; decide)
          have h := ite_f h (show ¬ p2 = 6 from fun q => by rw [hv] at q; revert q; decide)
          have h := ite_f h (show ¬ p2 = 7 from fun q => by rw [hv] at q; revert q; decide)
          have h := ite_f h (show ¬ p2 = 8 from fun q => by rw [hv] at q; revert q; decide)
          have h := ite_t h hv
          refine ⟨by decide, ?_⟩
          refine k_aload cx 0 dX10_line_152 rfl ?_
          obtain ⟨a39, g40, h⟩ := bind_ok h
          refine q_getI cx fl_X10_137 g40 dX10_line_154 ?_
          have h := Option.some.inj h
          exact k_iret cx hr hlk (by rw [← h]) rfl dX10_line_157
        | k + 10, ho => exact absurd ho (by simp)
set_option maxRecDepth 100000 in
set_option maxHeartbeats 4000000 in
theorem w_X10_letter {Γ : GE} {σ : St} {t : Nat} {p1 : Int32} {p2 : Int32} {ρ : Int32} (hk : hpK σ t = 10) (h : f_X10_letter σ t p1 p2 = some ρ) : Ct Γ yX10_letter cX10_letter 4 (some .int) 1 21 [va_rf (some t), .int p1, .int p2] σ (some (.int ρ)) σ := by
  refine ct_intro (own := RX10) (L0 := [(0, va_rf (some t)), (1, .int p1), (2, .int p2)]) (by decide +kernel) rfl (by simp [lg_sl, cat_rf, cat_i, cat_j]) (by simp [lv_args, cat_rf, cat_i, cat_j]) ?_
  intro p l e s m args below meth c hr hlk hin cx
  have hk0 := dn_eq hk
  unfold f_X10_letter at h
  refine k_aload_n cx 0 dX10_letter_0 rfl rfl ?_
  refine q_getR cx fl_X10_19 hk0 dX10_letter_1 ?_
  refine k_iload_n cx 1 dX10_letter_4 rfl rfl ?_
  obtain ⟨a1, g2, h⟩ := bind_ok h
  obtain ⟨q3, g4, h⟩ := bind_ok h
  refine k_callV cx iv_X10_73 (ci := 5) rfl (by decide) (w_X5_lineAt (dn_some g2).2 g4) g2 (As := [.int p1]) rfl rfl ⟨Nat.le_of_ble_eq_true rfl, Nat.le_of_ble_eq_true rfl⟩ (by simp [cat_rf, cat_i, cat_j]) dX10_letter_5 ?_
  refine k_astore_n cx (i := 3) [(3, va_rf q3), (0, va_rf (some t)), (1, .int p1), (2, .int p2)] dX10_letter_8 rfl (by decide) (by simp [cat_rf, cat_i, cat_j]) ?_
  refine k_aload_n cx 0 dX10_letter_9 rfl rfl ?_
  refine k_ifnull cx 17 dX10_letter_10 (by decide) (fun c5 => ?_) (fun a13 c5 => ?_)
  · have h := ite_t h c5
    refine k_bipush cx (-2) dX10_letter_17 (by decide) ?_
    have h := Option.some.inj h
    exact k_iret cx hr hlk (by rw [← h]) rfl dX10_letter_19
  · have h := ite_f h (ne_nn c5)
    refine k_iload_n cx 3 dX10_letter_13 rfl rfl ?_
    refine k_if_ge cx 20 dX10_letter_14 (by decide) (fun c6 => ?_) (fun c6 => ?_)
    · have h := ite_t h c6
      refine k_aload_n cx 0 dX10_letter_20 rfl rfl ?_
      obtain ⟨a7, g8, h⟩ := bind_ok h
      refine q_getR cx fl_X10_80 g8 dX10_letter_21 ?_
      refine k_iload_n cx 3 dX10_letter_24 rfl rfl ?_
      obtain ⟨a9, g10, h⟩ := bind_ok h
      obtain ⟨q11, g12, h⟩ := bind_ok h
      refine k_callV cx iv_X10_140 (ci := 9) rfl (by decide) (w_X9_byteAt (dn_some g10).2 g12) g10 (As := [.int p2]) rfl rfl ⟨Nat.le_of_ble_eq_true rfl, Nat.le_of_ble_eq_true rfl⟩ (by simp [cat_rf, cat_i, cat_j]) dX10_letter_25 ?_
      have h := Option.some.inj h
      exact k_iret cx hr hlk (by rw [← h]) rfl dX10_letter_28
    · have h := ite_f h c6
      refine k_bipush cx (-2) dX10_letter_17 (by decide) ?_
      have h := Option.some.inj h
      exact k_iret cx hr hlk (by rw [← h]) rfl dX10_letter_19
set_option maxRecDepth 100000 in
set_option maxHeartbeats 4000000 in
theorem w_X10_set {Γ : GE} {σ : St} {t : Nat} {p1 : Int32} {p2 : Int32} {ρ : Int32 × St} (hk : hpK σ t = 10) (h : f_X10_set σ t p1 p2 = some ρ) : Ct Γ yX10_set cX10_set 4 (some .int) 7 169 [va_rf (some t), .int p1, .int p2] σ (some (.int ρ.1)) ρ.2 := by
  refine ct_intro (own := RX10) (L0 := [(0, va_rf (some t)), (1, .int p1), (2, .int p2)]) (by decide +kernel) rfl (by simp [lg_sl, cat_rf, cat_i, cat_j]) (by simp [lv_args, cat_rf, cat_i, cat_j]) ?_
  intro p l e s m args below meth c hr hlk hin cx
  have hk0 := dn_eq hk
  unfold f_X10_set at h
  refine k_iload_n cx 1 dX10_set_0 rfl rfl ?_
  refine k_if_lt cx 31 dX10_set_1 (by decide) (fun c1 => ?_) (fun c1 => ?_)
  · have h := ite_t h c1
    refine k_bipush cx (-2) dX10_set_31 (by decide) ?_
    have h := Option.some.inj h
    exact k_iret cx hr hlk (by rw [← h]) (by rw [← h]) dX10_set_33
  · have h := ite_f h c1
    refine k_iload_n cx 1 dX10_set_4 rfl rfl ?_
    refine k_iconst cx 5 dX10_set_5 (by decide) ?_
    refine k_icmp_ge cx 31 dX10_set_6 (by decide) (fun c2 => ?_) (fun c2 => ?_)
    · have h := ite_t h c2
      refine k_bipush cx (-2) dX10_set_31 (by decide) ?_
      have h := Option.some.inj h
      exact k_iret cx hr hlk (by rw [← h]) (by rw [← h]) dX10_set_33
    · have h := ite_f h c2
      refine k_iload_n cx 2 dX10_set_9 rfl rfl ?_
      refine k_gets cx (i := 1) rfl gl_X10_144 dX10_set_10 ?_
      refine k_iload_n cx 1 dX10_set_13 rfl rfl ?_
      obtain ⟨q3, g4, h⟩ := bind_ok h
      refine k_callS cx iv_X10_148 (w_X10_element g4) (As := [va_rf (some (hpG σ 1)), .int p1]) rfl rfl ⟨Nat.le_of_ble_eq_true rfl, Nat.le_of_ble_eq_true rfl⟩ (by simp [cat_rf, cat_i, cat_j]) dX10_set_14 ?_
      refine k_icmp_lt cx 31 dX10_set_17 (by decide) (fun c5 => ?_) (fun c5 => ?_)
      · have h := ite_t h c5
        refine k_bipush cx (-2) dX10_set_31 (by decide) ?_
        have h := Option.some.inj h
        exact k_iret cx hr hlk (by rw [← h]) (by rw [← h]) dX10_set_33
      · have h := ite_f h c5
        refine k_iload_n cx 2 dX10_set_20 rfl rfl ?_
        refine k_gets cx (i := 2) rfl gl_X10_152 dX10_set_21 ?_
        refine k_iload_n cx 1 dX10_set_24 rfl rfl ?_
        obtain ⟨q6, g7, h⟩ := bind_ok h
        refine k_callS cx iv_X10_148 (w_X10_element g7) (As := [va_rf (some (hpG σ 2)), .int p1]) rfl rfl ⟨Nat.le_of_ble_eq_true rfl, Nat.le_of_ble_eq_true rfl⟩ (by simp [cat_rf, cat_i, cat_j]) dX10_set_25 ?_
        refine k_icmp_le cx 34 dX10_set_28 (by decide) (fun c8 => ?_) (fun c8 => ?_)
        · have h := ite_t h c8
          refine k_aload_n cx 0 dX10_set_34 rfl rfl ?_
          refine q_getR cx fl_X10_19 hk0 dX10_set_35 ?_
          refine k_iload_n cx 1 dX10_set_38 rfl rfl ?_
          obtain ⟨a9, g10, h⟩ := bind_ok h
          obtain ⟨q11, g12, h⟩ := bind_ok h
          refine k_callV cx iv_X10_155 (ci := 5) rfl (by decide) (w_X5_setting (dn_some g10).2 g12) g10 (As := [.int p1]) rfl rfl ⟨Nat.le_of_ble_eq_true rfl, Nat.le_of_ble_eq_true rfl⟩ (by simp [cat_rf, cat_i, cat_j]) dX10_set_39 ?_
          refine k_istore_n cx (i := 3) [(3, .int q11), (0, va_rf (some t)), (1, .int p1), (2, .int p2)] dX10_set_42 rfl (by decide) (by simp [cat_rf, cat_i, cat_j]) ?_
          refine k_aload_n cx 1 dX10_set_43 rfl rfl ?_
          refine q_getR cx fl_X10_26 hk0 dX10_set_44 ?_
          refine k_aload_n cx 1 dX10_set_47 rfl rfl ?_
          refine q_getR cx fl_X10_19 hk0 dX10_set_48 ?_
          obtain ⟨a13, g14, h⟩ := bind_ok h
          obtain ⟨q15, g16, h⟩ := bind_ok h
          refine k_callV cx iv_X10_58 (ci := 0) rfl (by decide) (w_X0_keepState (dn_some g14).2 g16) g14 (As := [va_rf (hpR σ 321 t)]) rfl rfl ⟨Nat.le_of_ble_eq_true rfl, Nat.le_of_ble_eq_true rfl⟩ (by simp [cat_rf, cat_i, cat_j]) dX10_set_51 ?_
          refine k_aload_n cx 1 dX10_set_54 rfl rfl ?_
          obtain ⟨a17, g18, h⟩ := bind_ok h
          refine q_getR cx fl_X10_19 g18 dX10_set_55 ?_
          refine k_iload_n cx 2 dX10_set_58 rfl rfl ?_
          refine k_iload_n cx 3 dX10_set_59 rfl rfl ?_
          obtain ⟨a19, g20, h⟩ := bind_ok h
          obtain ⟨q21, g22, h⟩ := bind_ok h
          refine k_callV cx iv_X10_158 (ci := 5) rfl (by decide) (w_X5_changeSetting (dn_some g20).2 g22) g20 (As := [.int p1, .int p2]) rfl rfl ⟨Nat.le_of_ble_eq_true rfl, Nat.le_of_ble_eq_true rfl⟩ (by simp [cat_rf, cat_i, cat_j]) dX10_set_60 ?_
          refine k_aload_n cx 1 dX10_set_63 rfl rfl ?_
          obtain ⟨a23, g24, h⟩ := bind_ok h
          obtain ⟨q25, g26, h⟩ := bind_ok h
          refine k_callV cx iv_X10_70 (ci := 10) rfl (by decide) (w_X10_layOut (dn_some g24).2 g26) g24 (As := []) rfl rfl ⟨Nat.le_of_ble_eq_true rfl, Nat.le_of_ble_eq_true rfl⟩ (by simp [cat_rf, cat_i, cat_j]) dX10_set_64 ?_
          refine k_iload_n cx 0 dX10_set_67 rfl rfl ?_
          have h := Option.some.inj h
          exact k_iret cx hr hlk (by rw [← h]) (by rw [← h]) dX10_set_68
        · have h := ite_f h c8
          refine k_bipush cx (-2) dX10_set_31 (by decide) ?_
          have h := Option.some.inj h
          exact k_iret cx hr hlk (by rw [← h]) (by rw [← h]) dX10_set_33
set_option maxRecDepth 100000 in
set_option maxHeartbeats 4000000 in
theorem w_X10_undo {Γ : GE} {σ : St} {t : Nat} {ρ : Int32 × St} (hk : hpK σ t = 10) (h : f_X10_undo σ t = some ρ) : Ct Γ yX10_undo cX10_undo 1 (some .int) 7 169 [va_rf (some t)] σ (some (.int ρ.1)) ρ.2 := by
  refine ct_intro (own := RX10) (L0 := [(0, va_rf (some t))]) (by decide +kernel) rfl (by simp [lg_sl, cat_rf, cat_i, cat_j]) (by simp [lv_args, cat_rf, cat_i, cat_j]) ?_
  intro p l e s m args below meth c hr hlk hin cx
  have hk0 := dn_eq hk
  unfold f_X10_undo at h
  refine k_aload_n cx 0 dX10_undo_0 rfl rfl ?_
  refine q_getR cx fl_X10_26 hk0 dX10_undo_1 ?_
  obtain ⟨a1, g2, h⟩ := bind_ok h
  refine q_getI cx fl_X10_162 g2 dX10_undo_4 ?_
  refine k_if_ne cx 13 dX10_undo_7 (by decide) (fun c3 => ?_) (fun c3 => ?_)
  · have h := ite_t h c3
    refine k_aload_n cx 0 dX10_undo_13 rfl rfl ?_
    refine q_getR cx fl_X10_26 hk0 dX10_undo_14 ?_
    refine k_aload_n cx 0 dX10_undo_17 rfl rfl ?_
    refine q_getR cx fl_X10_19 hk0 dX10_undo_18 ?_
    obtain ⟨q4, g5, h⟩ := bind_ok h
    refine k_callV cx iv_X10_163 (ci := 0) rfl (by decide) (w_X0_bringBack (dn_some g2).2 g5) g2 (As := [va_rf (hpR σ 321 t)]) rfl rfl ⟨Nat.le_of_ble_eq_true rfl, Nat.le_of_ble_eq_true rfl⟩ (by simp [cat_rf, cat_i, cat_j]) dX10_undo_21 ?_
    refine k_aload_n cx 0 dX10_undo_24 rfl rfl ?_
    obtain ⟨a6, g7, h⟩ := bind_ok h
    obtain ⟨q8, g9, h⟩ := bind_ok h
    refine k_callV cx iv_X10_70 (ci := 10) rfl (by decide) (w_X10_layOut (dn_some g7).2 g9) g7 (As := []) rfl rfl ⟨Nat.le_of_ble_eq_true rfl, Nat.le_of_ble_eq_true rfl⟩ (by simp [cat_rf, cat_i, cat_j]) dX10_undo_25 ?_
    refine k_aload_n cx 0 dX10_undo_28 rfl rfl ?_
    obtain ⟨a10, g11, h⟩ := bind_ok h
    refine q_getR cx fl_X10_26 g11 dX10_undo_29 ?_
    obtain ⟨a12, g13, h⟩ := bind_ok h
    refine q_getI cx fl_X10_162 g13 dX10_undo_32 ?_
    have h := Option.some.inj h
    exact k_iret cx hr hlk (by rw [← h]) (by rw [← h]) dX10_undo_35
  · have h := ite_f h c3
    refine k_bipush cx (-3) dX10_undo_10 (by decide) ?_
    have h := Option.some.inj h
    exact k_iret cx hr hlk (by rw [← h]) (by rw [← h]) dX10_undo_12
set_option maxRecDepth 100000 in
set_option maxHeartbeats 4000000 in
theorem w_X10_row {Γ : GE} {σ : St} {t : Nat} {p1 : Int32} {p2 : Int32} {ρ : Int32} (hk : hpK σ t = 10) (h : f_X10_row σ t p1 p2 = some ρ) : Ct Γ yX10_row cX10_row 4 (some .int) 1 21 [va_rf (some t), .int p1, .int p2] σ (some (.int ρ)) σ := by
  refine ct_intro (own := RX10) (L0 := [(0, va_rf (some t)), (1, .int p1), (2, .int p2)]) (by decide +kernel) rfl (by simp [lg_sl, cat_rf, cat_i, cat_j]) (by simp [lv_args, cat_rf, cat_i, cat_j]) ?_
  intro p l e s m args below meth c hr hlk hin cx
  have hk0 := dn_eq hk
  unfold f_X10_row at h
  refine k_iload_n cx 1 dX10_row_0 rfl rfl ?_
  refine k_if_lt cx 14 dX10_row_1 (by decide) (fun c1 => ?_) (fun c1 => ?_)
  · have h := ite_t h c1
    refine k_bipush cx (-2) dX10_row_14 (by decide) ?_
    have h := Option.some.inj h
    exact k_iret cx hr hlk (by rw [← h]) rfl dX10_row_16
  · have h := ite_f h c1
    refine k_iload_n cx 2 dX10_row_4 rfl rfl ?_
    refine k_if_lt cx 14 dX10_row_5 (by decide) (fun c2 => ?_) (fun c2 => ?_)
    · have h := ite_t h c2
      refine k_bipush cx (-2) dX10_row_14 (by decide) ?_
      have h := Option.some.inj h
      exact k_iret cx hr hlk (by rw [← h]) rfl dX10_row_16
    · have h := ite_f h c2
      refine k_iload_n cx 2 dX10_row_8 rfl rfl ?_
      refine k_bipush cx 9 dX10_row_9 (by decide) ?_
      refine k_icmp_lt cx 17 dX10_row_11 (by decide) (fun c3 => ?_) (fun c3 => ?_)
      · have h := ite_t h c3
        refine k_aload_n cx 0 dX10_row_17 rfl rfl ?_
        refine q_getR cx fl_X10_33 hk0 dX10_row_18 ?_
        refine k_iload_n cx 1 dX10_row_21 rfl rfl ?_
        obtain ⟨a4, g5, h⟩ := bind_ok h
        obtain ⟨q6, g7, h⟩ := bind_ok h
        refine k_callV cx iv_X10_166 (ci := 1) rfl (by decide) (w_X1_rowAt (dn_some g5).2 g7) g5 (As := [.int p1]) rfl rfl ⟨Nat.le_of_ble_eq_true rfl, Nat.le_of_ble_eq_true rfl⟩ (by simp [cat_rf, cat_i, cat_j]) dX10_row_22 ?_
        refine k_astore_n cx (i := 3) [(3, va_rf q6), (0, va_rf (some t)), (1, .int p1), (2, .int p2)] dX10_row_25 rfl (by decide) (by simp [cat_rf, cat_i, cat_j]) ?_
        refine k_aload_n cx 0 dX10_row_26 rfl rfl ?_
        refine k_ifnonnull cx 32 dX10_row_27 (by decide) (fun c8 => ?_) (fun a31 c8 => ?_)
        · have h := ite_t h c8
          refine k_iconst cx (-1) dX10_row_30 (by decide) ?_
          have h := Option.some.inj h
          exact k_iret cx hr hlk (by rw [← h]) rfl dX10_row_31
        · have h := ite_f h (ne_nn c8)
          refine k_iload_n cx 3 dX10_row_32 rfl rfl ?_
          refine k_switch cx dX10_row_33 (by decide) (fun hs => ?_) (by decide) (fun k off ho hs => ?_)
          · have h0 : ¬ p2 = 0 := fun q => by rw [q] at hs; revert hs; decide
            have h1 : ¬ p2 = 1 := fun q => by rw [q] at hs; revert hs; decide
            have h2 : ¬ p2 = 2 := fun q => by rw [q] at hs; revert hs; decide
            have h3 : ¬ p2 = 3 := fun q => by rw [q] at hs; revert hs; decide
            have h4 : ¬ p2 = 4 := fun q => by rw [q] at hs; revert hs; decide
            have h5 : ¬ p2 = 5 := fun q => by rw [q] at hs; revert hs; decide
            have h6 : ¬ p2 = 6 := fun q => by rw [q] at hs; revert hs; decide
            have h7 : ¬ p2 = 7 := fun q => by rw [q] at hs; revert hs; decide
            have h := ite_f h h0
            have h := ite_f h h1
            have h := ite_f h h2
            have h := ite_f h h3
            have h := ite_f h h4
            have h := ite_f h h5
            have h := ite_f h h6
            have h := ite_f h h7
            refine k_aload_n cx 0 dX10_row_123 rfl rfl ?_
            obtain ⟨a27, g28, h⟩ := bind_ok h
            obtain ⟨q29, g30, h⟩ := bind_ok h
            refine k_callV cx iv_X10_194 (ci := 6) rfl (by decide) (w_X6_end (dn_some g28).2 g30) g28 (As := []) rfl rfl ⟨Nat.le_of_ble_eq_true rfl, Nat.le_of_ble_eq_true rfl⟩ (by simp [cat_rf, cat_i, cat_j]) dX10_row_124 ?_
            have h := Option.some.inj h
            exact k_iret cx hr hlk (by rw [← h]) rfl dX10_row_127
          · match k, ho with
            | 0, ho =>
              cases ho
              have hv : p2 = 0 := Int32.toInt_inj.mp (by rw [hs]; rfl)
              have h := ite_t h hv
              refine ⟨by decide, ?_⟩
              refine k_aload_n cx 0 dX10_row_80 rfl rfl ?_
              obtain ⟨a9, g10, h⟩ := bind_ok h
              refine q_getI cx fl_X10_170 g10 dX10_row_81 ?_
              have h := Option.some.inj h
              exact k_iret cx hr hlk (by rw [← h]) rfl dX10_row_84
            | 1, ho =>
              cases ho
              have hv : p2 = 1 := Int32.toInt_inj.mp (by rw [hs]; rfl)
              have h := ite_f h (show ¬ p2 = 0 from fun q => by rw [hv] at q; revert q; decide)
              have h := ite_t h hv
              refine ⟨by decide, ?_⟩
              refine k_aload_n cx 0 dX10_row_85 rfl rfl ?_
              obtain ⟨a11, g12, h⟩ := bind_ok h
              refine q_getI cx fl_X10_175 g12 dX10_row_86 ?_
              have h := Option.some.inj h
              exact k_iret cx hr hlk (by rw [← h]) rfl dX10_row_89
            | 2, ho =>
              cases ho
              have hv : p2 = 2 := Int32.toInt_inj.mp (by rw [hs]; rfl)
              have h := ite_f h (show ¬ p2 = 0 from fun q => by rw [hv] at q; revert q; decide)
              have h := ite_f h (show ¬ p2 = 1 from fun q => by rw [hv] at q; revert q; decide)
              have h := ite_t h hv
              refine ⟨by decide, ?_⟩
              refine k_aload_n cx 0 dX10_row_90 rfl rfl ?_
              obtain ⟨a13, g14, h⟩ := bind_ok h
              refine q_getI cx fl_X10_178 g14 dX10_row_91 ?_
              have h := Option.some.inj h
              exact k_iret cx hr hlk (by rw [← h]) rfl dX10_row_94
            | 3, ho =>
              cases ho
              have hv : p2 = 3 := Int32.toInt_inj.mp (by rw [hs]; rfl)
              have h := ite_f h (show ¬ p2 = 0 from fun q => by rw [hv] at q; revert q; decide)
              have h := ite_f h (show ¬ p2 = 1 from fun q => by rw [hv] at q; revert q; decide)
              have h := ite_f h (show ¬ p2 = 2 from fun q => by rw [hv] at q; revert q; decide)
              have h := ite_t h hv
              refine ⟨by decide, ?_⟩
              refine k_aload_n cx 0 dX10_row_95 rfl rfl ?_
              obtain ⟨a15, g16, h⟩ := bind_ok h
              refine q_getI cx fl_X10_181 g16 dX10_row_96 ?_
              have h := Option.some.inj h
              exact k_iret cx hr hlk (by rw [← h]) rfl dX10_row_99
            | 4, ho =>
              cases ho
              have hv : p2 = 4 := Int32.toInt_inj.mp (by rw [hs]; rfl)
              have h := ite_f h (show ¬ p2 = 0 from fun q => by rw [hv] at q; revert q; decide)
              have h := ite_f h (show ¬ p2 = 1 from fun q => by rw [hv] at q; revert q; decide)
              have h := ite_f h (show ¬ p2 = 2 from fun q => by rw [hv] at q; revert q; decide)
              have h := ite_f h (show ¬ p2 = 3 from fun q => by rw [hv] at q; revert q; decide)
              have h := ite_t h hv
              refine ⟨by decide, ?_⟩
              refine k_aload_n cx 0 dX10_row_100 rfl rfl ?_
              obtain ⟨a17, g18, h⟩ := bind_ok h
              refine q_getI cx fl_X10_184 g18 dX10_row_101 ?_
              have h := Option.some.inj h
              exact k_iret cx hr hlk (by rw [← h]) rfl dX10_row_104
            | 5, ho =>
              cases ho
              have hv : p2 = 5 := Int32.toInt_inj.mp (by rw [hs]; rfl)
              have h := ite_f h (show ¬ p2 = 0 from fun q => by rw [hv] at q; revert q; decide)
              have h := ite_f h (show ¬ p2 = 1 from fun q => by rw [hv] at q; revert q; decide)
              have h := ite_f h (show ¬ p2 = 2 from fun q => by rw [hv] at q; revert q; decide)
              have h := ite_f h (show ¬ p2 = 3 from fun q => by rw [hv] at q; revert q; decide)
              have h := ite_f h (show ¬ p2 = 4 from fun q => by rw [hv] at q; revert q; decide)
              have h := ite_t h hv
              refine ⟨by decide, ?_⟩
              refine k_aload_n cx 0 dX10_row_105 rfl rfl ?_
              obtain ⟨a19, g20, h⟩ := bind_ok h
              refine q_getI cx fl_X10_187 g20 dX10_row_106 ?_
              have h := Option.some.inj h
              exact k_iret cx hr hlk (by rw [← h]) rfl dX10_row_109
            | 6, ho =>
              cases ho
              have hv : p2 = 6 := Int32.toInt_inj.mp (by rw [hs]; rfl)
              have h := ite_f h (show ¬ p2 = 0 from fun q => by rw [hv] at q; revert q; decide)
              have h := ite_f h (show ¬ p2 = 1 from fun q => by rw [hv] at q; revert q; decide)
              have h := ite_f h (show ¬ p2 = 2 from fun q => by rw [hv] at q; revert q; decide)
              have h := ite_f h (show ¬ p2 = 3 from fun q => by rw [hv] at q; revert q; decide)
              have h := ite_f h (show ¬ p2 = 4 from fun q => by rw [hv] at q; revert q; decide)
              have h := ite_f h (show ¬ p2 = 5 from fun q => by rw [hv] at q; revert q; decide)
              have h := ite_t h hv
              refine ⟨by decide, ?_⟩
              refine k_aload_n cx 0 dX10_row_110 rfl rfl ?_
              obtain ⟨a21, g22, h⟩ := bind_ok h
              refine q_getI cx fl_X10_188 g22 dX10_row_111 ?_
              have h := Option.some.inj h
              exact k_iret cx hr hlk (by rw [← h]) rfl dX10_row_114
            | 7, ho =>
              cases ho
              have hv : p2 = 7 := Int32.toInt_inj.mp (by rw [hs]; rfl)
              have h := ite_f h (show ¬ p2 = 0 from fun q => by rw [hv] at q; revert q; decide)
              have h := ite_f h (show ¬ p2 = 1 from fun q => by rw [hv] at q; revert q; decide)
              have h := ite_f h (show ¬ p2 = 2 from fun q => by rw [hv] at q; revert q; decide)
              have h := ite_f h (show ¬ p2 = 3 from fun q => by rw [hv] at q; revert q; decide)
              have h := ite_f h (show ¬ p2 = 4 from fun q => by rw [hv] at q; revert q; decide)
              have h := ite_f h (show ¬ p2 = 5 from fun q => by rw [hv] at q; revert q; decide)
              have h := ite_f h (show ¬ p2 = 6 from fun q => by rw [hv] at q; revert q; decide)
              have h := ite_t h hv
              refine ⟨by decide, ?_⟩
              refine k_aload_n cx 0 dX10_row_115 rfl rfl ?_
              obtain ⟨a23, g24, h⟩ := bind_ok h
              refine q_getI cx fl_X10_191 g24 dX10_row_116 ?_
              obtain ⟨q25, g26, h⟩ := bind_ok h
              refine k_callS cx iv_X10_112 (w_X10_oneIf g26) (As := [.int (hpI σ 200 a23)]) rfl rfl ⟨Nat.le_of_ble_eq_true rfl, Nat.le_of_ble_eq_true rfl⟩ (by simp [cat_rf, cat_i, cat_j]) dX10_row_119 ?_
              have h := Option.some.inj h
              exact k_iret cx hr hlk (by rw [← h]) rfl dX10_row_122
            | k + 8, ho => exact absurd ho (by simp)
      · have h := ite_f h c3
        refine k_bipush cx (-2) dX10_row_14 (by decide) ?_
        have h := Option.some.inj h
        exact k_iret cx hr hlk (by rw [← h]) rfl dX10_row_16
set_option maxRecDepth 100000 in
set_option maxHeartbeats 4000000 in
theorem w_X10_byteInRow {Γ : GE} {σ : St} {t : Nat} {p1 : Option Nat} {p2 : Int32} {ρ : Int32} (hk : hpK σ t = 10) (h : f_X10_byteInRow σ t p1 p2 = some ρ) : Ct Γ yX10_byteInRow cX10_byteInRow 4 (some .int) 1 21 [va_rf (some t), va_rf p1, .int p2] σ (some (.int ρ)) σ := by
  refine ct_intro (own := RX10) (L0 := [(0, va_rf (some t)), (1, va_rf p1), (2, .int p2)]) (by decide +kernel) rfl (by simp [lg_sl, cat_rf, cat_i, cat_j]) (by simp [lv_args, cat_rf, cat_i, cat_j]) ?_
  intro p l e s m args below meth c hr hlk hin cx
  have hk0 := dn_eq hk
  unfold f_X10_byteInRow at h
  refine k_aload_n cx 1 dX10_byteInRow_0 rfl rfl ?_
  refine k_ifnull cx 20 dX10_byteInRow_1 (by decide) (fun c1 => ?_) (fun a20 c1 => ?_)
  · have h := ite_t h c1
    refine k_bipush cx 32 dX10_byteInRow_20 (by decide) ?_
    have h := Option.some.inj h
    exact k_iret cx hr hlk (by rw [← h]) rfl dX10_byteInRow_22
  · have h := ite_f h (ne_nn c1)
    refine k_iload_n cx 2 dX10_byteInRow_4 rfl rfl ?_
    refine k_aload_n cx 1 dX10_byteInRow_5 rfl rfl ?_
    obtain ⟨a2, g3, h⟩ := bind_ok h
    refine q_getI cx fl_X10_184 g3 dX10_byteInRow_6 ?_
    refine k_icmp_lt cx 20 dX10_byteInRow_9 (by decide) (fun c4 => ?_) (fun c4 => ?_)
    · have h := ite_t h c4
      refine k_bipush cx 32 dX10_byteInRow_20 (by decide) ?_
      have h := Option.some.inj h
      exact k_iret cx hr hlk (by rw [← h]) rfl dX10_byteInRow_22
    · have h := ite_f h c4
      refine k_iload_n cx 2 dX10_byteInRow_12 rfl rfl ?_
      refine k_aload_n cx 1 dX10_byteInRow_13 rfl rfl ?_
      obtain ⟨q5, g6, h⟩ := bind_ok h
      refine k_callV cx iv_X10_194 (ci := 6) rfl (by decide) (w_X6_end (dn_some g3).2 g6) g3 (As := []) rfl rfl ⟨Nat.le_of_ble_eq_true rfl, Nat.le_of_ble_eq_true rfl⟩ (by simp [cat_rf, cat_i, cat_j]) dX10_byteInRow_14 ?_
      refine k_icmp_lt cx 23 dX10_byteInRow_17 (by decide) (fun c7 => ?_) (fun c7 => ?_)
      · have h := ite_t h c7
        refine k_aload_n cx 0 dX10_byteInRow_23 rfl rfl ?_
        refine q_getR cx fl_X10_19 hk0 dX10_byteInRow_24 ?_
        refine k_aload_n cx 1 dX10_byteInRow_27 rfl rfl ?_
        refine q_getI cx fl_X10_170 g3 dX10_byteInRow_28 ?_
        obtain ⟨a8, g9, h⟩ := bind_ok h
        obtain ⟨q10, g11, h⟩ := bind_ok h
        refine k_callV cx iv_X10_73 (ci := 5) rfl (by decide) (w_X5_lineAt (dn_some g9).2 g11) g9 (As := [.int (hpI σ 192 a2)]) rfl rfl ⟨Nat.le_of_ble_eq_true rfl, Nat.le_of_ble_eq_true rfl⟩ (by simp [cat_rf, cat_i, cat_j]) dX10_byteInRow_31 ?_
        refine k_astore_n cx (i := 3) [(3, va_rf q10), (0, va_rf (some t)), (1, va_rf p1), (2, .int p2)] dX10_byteInRow_34 rfl (by decide) (by simp [cat_rf, cat_i, cat_j]) ?_
        refine k_aload_n cx 0 dX10_byteInRow_35 rfl rfl ?_
        refine k_ifnonnull cx 44 dX10_byteInRow_36 (by decide) (fun c12 => ?_) (fun a19 c12 => ?_)
        · have h := ite_t h c12
          refine k_bipush cx 32 dX10_byteInRow_39 (by decide) ?_
          refine k_goto cx 62 dX10_byteInRow_41 (by decide) ?_
          have h := Option.some.inj h
          exact k_iret cx hr hlk (by rw [← h]) rfl dX10_byteInRow_62
        · have h := ite_f h (ne_nn c12)
          refine k_aload_n cx 0 dX10_byteInRow_44 rfl rfl ?_
          obtain ⟨a13, g14, h⟩ := bind_ok h
          refine q_getR cx fl_X10_80 g14 dX10_byteInRow_45 ?_
          refine k_aload_n cx 2 dX10_byteInRow_48 rfl rfl ?_
          refine q_getI cx fl_X10_293 g3 dX10_byteInRow_49 ?_
          refine k_iload_n cx 3 dX10_byteInRow_52 rfl rfl ?_
          refine k_iadd cx dX10_byteInRow_53 ?_
          refine k_aload_n cx 2 dX10_byteInRow_54 rfl rfl ?_
          refine q_getI cx fl_X10_184 g3 dX10_byteInRow_55 ?_
          refine k_isub cx dX10_byteInRow_58 ?_
          obtain ⟨a15, g16, h⟩ := bind_ok h
          obtain ⟨q17, g18, h⟩ := bind_ok h
          refine k_callV cx iv_X10_140 (ci := 9) rfl (by decide) (w_X9_byteAt (dn_some g16).2 g18) g16 (As := [.int (((hpI σ 197 a2) + p2) - (hpI σ 196 a2))]) rfl rfl ⟨Nat.le_of_ble_eq_true rfl, Nat.le_of_ble_eq_true rfl⟩ (by simp [cat_rf, cat_i, cat_j]) dX10_byteInRow_59 ?_
          have h := Option.some.inj h
          exact k_iret cx hr hlk (by rw [← h]) rfl dX10_byteInRow_62
      · have h := ite_f h c7
        refine k_bipush cx 32 dX10_byteInRow_20 (by decide) ?_
        have h := Option.some.inj h
        exact k_iret cx hr hlk (by rw [← h]) rfl dX10_byteInRow_22
set_option maxRecDepth 100000 in
set_option maxHeartbeats 4000000 in
theorem w_X10_at {Γ : GE} {σ : St} {t : Nat} {p1 : Int32} {p2 : Int32} {p3 : Int32} {ρ : Int32} (hk : hpK σ t = 10) (h : f_X10_at σ t p1 p2 p3 = some ρ) : Ct Γ yX10_at cX10_at 5 (some .int) 2 45 [va_rf (some t), .int p1, .int p2, .int p3] σ (some (.int ρ)) σ := by
  refine ct_intro (own := RX10) (L0 := [(0, va_rf (some t)), (1, .int p1), (2, .int p2), (3, .int p3)]) (by decide +kernel) rfl (by simp [lg_sl, cat_rf, cat_i, cat_j]) (by simp [lv_args, cat_rf, cat_i, cat_j]) ?_
  intro p l e s m args below meth c hr hlk hin cx
  have hk0 := dn_eq hk
  unfold f_X10_at at h
  refine k_aload_n cx 0 dX10_at_0 rfl rfl ?_
  refine q_getR cx fl_X10_33 hk0 dX10_at_1 ?_
  refine k_iload_n cx 1 dX10_at_4 rfl rfl ?_
  obtain ⟨a1, g2, h⟩ := bind_ok h
  obtain ⟨q3, g4, h⟩ := bind_ok h
  refine k_callV cx iv_X10_197 (ci := 1) rfl (by decide) (w_X1_pageAt (dn_some g2).2 g4) g2 (As := [.int p1]) rfl rfl ⟨Nat.le_of_ble_eq_true rfl, Nat.le_of_ble_eq_true rfl⟩ (by simp [cat_rf, cat_i, cat_j]) dX10_at_5 ?_
  refine k_astore cx [(4, va_rf q3), (0, va_rf (some t)), (1, .int p1), (2, .int p2), (3, .int p3)] dX10_at_8 (by decide) (by simp [cat_rf, cat_i, cat_j]) ?_
  refine k_aload cx 0 dX10_at_10 rfl ?_
  refine k_ifnull cx 31 dX10_at_12 (by decide) (fun c5 => ?_) (fun a20 c5 => ?_)
  · have h := ite_t h c5
    refine k_bipush cx (-2) dX10_at_31 (by decide) ?_
    have h := Option.some.inj h
    exact k_iret cx hr hlk (by rw [← h]) rfl dX10_at_33
  · have h := ite_f h (ne_nn c5)
    refine k_iload_n cx 3 dX10_at_15 rfl rfl ?_
    refine k_if_lt cx 31 dX10_at_16 (by decide) (fun c6 => ?_) (fun c6 => ?_)
    · have h := ite_t h c6
      refine k_bipush cx (-2) dX10_at_31 (by decide) ?_
      have h := Option.some.inj h
      exact k_iret cx hr hlk (by rw [← h]) rfl dX10_at_33
    · have h := ite_f h c6
      refine k_iload_n cx 3 dX10_at_19 rfl rfl ?_
      refine k_aload_n cx 1 dX10_at_20 rfl rfl ?_
      refine q_getR cx fl_X10_19 hk0 dX10_at_21 ?_
      refine k_iconst cx 1 dX10_at_24 (by decide) ?_
      obtain ⟨a7, g8, h⟩ := bind_ok h
      obtain ⟨q9, g10, h⟩ := bind_ok h
      refine k_callV cx iv_X10_155 (ci := 5) rfl (by decide) (w_X5_setting (dn_some g8).2 g10) g8 (As := [.int 1]) rfl rfl ⟨Nat.le_of_ble_eq_true rfl, Nat.le_of_ble_eq_true rfl⟩ (by simp [cat_rf, cat_i, cat_j]) dX10_at_25 ?_
      refine k_icmp_lt cx 34 dX10_at_28 (by decide) (fun c11 => ?_) (fun c11 => ?_)
      · have h := ite_t h c11
        refine k_iload_n cx 4 dX10_at_34 rfl rfl ?_
        refine k_if_lt cx 50 dX10_at_35 (by decide) (fun c12 => ?_) (fun c12 => ?_)
        · have h := ite_t h c12
          refine k_bipush cx (-2) dX10_at_50 (by decide) ?_
          have h := Option.some.inj h
          exact k_iret cx hr hlk (by rw [← h]) rfl dX10_at_52
        · have h := ite_f h c12
          refine k_iload_n cx 4 dX10_at_38 rfl rfl ?_
          refine k_aload_n cx 1 dX10_at_39 rfl rfl ?_
          refine q_getR cx fl_X10_19 hk0 dX10_at_40 ?_
          refine k_iconst cx 0 dX10_at_43 (by decide) ?_
          obtain ⟨q13, g14, h⟩ := bind_ok h
          refine k_callV cx iv_X10_155 (ci := 5) rfl (by decide) (w_X5_setting (dn_some g8).2 g14) g8 (As := [.int 0]) rfl rfl ⟨Nat.le_of_ble_eq_true rfl, Nat.le_of_ble_eq_true rfl⟩ (by simp [cat_rf, cat_i, cat_j]) dX10_at_44 ?_
          refine k_icmp_lt cx 53 dX10_at_47 (by decide) (fun c15 => ?_) (fun c15 => ?_)
          · have h := ite_t h c15
            refine k_aload_n cx 1 dX10_at_53 rfl rfl ?_
            refine k_aload_n cx 1 dX10_at_54 rfl rfl ?_
            refine q_getR cx fl_X10_33 hk0 dX10_at_55 ?_
            refine k_aload cx 0 dX10_at_58 rfl ?_
            refine k_iload_n cx 3 dX10_at_60 rfl rfl ?_
            obtain ⟨q16, g17, h⟩ := bind_ok h
            refine k_callV cx iv_X10_201 (ci := 1) rfl (by decide) (w_X1_rowAtPlace (dn_some g2).2 g17) g2 (As := [va_rf q3, .int p2]) rfl rfl ⟨Nat.le_of_ble_eq_true rfl, Nat.le_of_ble_eq_true rfl⟩ (by simp [cat_rf, cat_i, cat_j]) dX10_at_61 ?_
            refine k_iload_n cx 4 dX10_at_64 rfl rfl ?_
            obtain ⟨q18, g19, h⟩ := bind_ok h
            refine k_callV cx iv_X10_205 (ci := 10) rfl (by decide) (w_X10_byteInRow (dn_some hk0).2 g19) hk0 (As := [va_rf q16, .int p3]) rfl rfl ⟨Nat.le_of_ble_eq_true rfl, Nat.le_of_ble_eq_true rfl⟩ (by simp [cat_rf, cat_i, cat_j]) dX10_at_65 ?_
            have h := Option.some.inj h
            exact k_iret cx hr hlk (by rw [← h]) rfl dX10_at_68
          · have h := ite_f h c15
            refine k_bipush cx (-2) dX10_at_50 (by decide) ?_
            have h := Option.some.inj h
            exact k_iret cx hr hlk (by rw [← h]) rfl dX10_at_52
      · have h := ite_f h c11
        refine k_bipush cx (-2) dX10_at_31 (by decide) ?_
        have h := Option.some.inj h
        exact k_iret cx hr hlk (by rw [← h]) rfl dX10_at_33
set_option maxRecDepth 100000 in
set_option maxHeartbeats 4000000 in
theorem w_X10_page {Γ : GE} {σ : St} {t : Nat} {p1 : Int32} {p2 : Int32} {ρ : Int32} (hk : hpK σ t = 10) (h : f_X10_page σ t p1 p2 = some ρ) : Ct Γ yX10_page cX10_page 4 (some .int) 1 21 [va_rf (some t), .int p1, .int p2] σ (some (.int ρ)) σ := by
  refine ct_intro (own := RX10) (L0 := [(0, va_rf (some t)), (1, .int p1), (2, .int p2)]) (by decide +kernel) rfl (by simp [lg_sl, cat_rf, cat_i, cat_j]) (by simp [lv_args, cat_rf, cat_i, cat_j]) ?_
  intro p l e s m args below meth c hr hlk hin cx
  have hk0 := dn_eq hk
  unfold f_X10_page at h
  refine k_aload_n cx 0 dX10_page_0 rfl rfl ?_
  refine q_getR cx fl_X10_33 hk0 dX10_page_1 ?_
  refine k_iload_n cx 1 dX10_page_4 rfl rfl ?_
  obtain ⟨a1, g2, h⟩ := bind_ok h
  obtain ⟨q3, g4, h⟩ := bind_ok h
  refine k_callV cx iv_X10_197 (ci := 1) rfl (by decide) (w_X1_pageAt (dn_some g2).2 g4) g2 (As := [.int p1]) rfl rfl ⟨Nat.le_of_ble_eq_true rfl, Nat.le_of_ble_eq_true rfl⟩ (by simp [cat_rf, cat_i, cat_j]) dX10_page_5 ?_
  refine k_astore_n cx (i := 3) [(3, va_rf q3), (0, va_rf (some t)), (1, .int p1), (2, .int p2)] dX10_page_8 rfl (by decide) (by simp [cat_rf, cat_i, cat_j]) ?_
  refine k_aload_n cx 0 dX10_page_9 rfl rfl ?_
  refine k_ifnonnull cx 16 dX10_page_10 (by decide) (fun c5 => ?_) (fun a18 c5 => ?_)
  · have h := ite_t h c5
    refine k_bipush cx (-2) dX10_page_13 (by decide) ?_
    have h := Option.some.inj h
    exact k_iret cx hr hlk (by rw [← h]) rfl dX10_page_15
  · have h := ite_f h (ne_nn c5)
    refine k_iload_n cx 3 dX10_page_16 rfl rfl ?_
    refine k_switch cx dX10_page_17 (by decide) (fun hs => ?_) (by decide) (fun k off ho hs => ?_)
    · have h0 : ¬ p2 = 0 := fun q => by rw [q] at hs; revert hs; decide
      have h1 : ¬ p2 = 1 := fun q => by rw [q] at hs; revert hs; decide
      have h2 : ¬ p2 = 2 := fun q => by rw [q] at hs; revert hs; decide
      have h3 : ¬ p2 = 3 := fun q => by rw [q] at hs; revert hs; decide
      have h4 : ¬ p2 = 4 := fun q => by rw [q] at hs; revert hs; decide
      have h := ite_f h h0
      have h := ite_f h h1
      have h := ite_f h h2
      have h := ite_f h h3
      have h := ite_f h h4
      refine k_bipush cx (-2) dX10_page_80 (by decide) ?_
      have h := Option.some.inj h
      exact k_iret cx hr hlk (by rw [← h]) rfl dX10_page_82
    · match k, ho with
      | 0, ho =>
        cases ho
        have hv : p2 = 0 := Int32.toInt_inj.mp (by rw [hs]; rfl)
        have h := ite_t h hv
        refine ⟨by decide, ?_⟩
        refine k_aload_n cx 0 dX10_page_52 rfl rfl ?_
        obtain ⟨a6, g7, h⟩ := bind_ok h
        refine q_getI cx fl_X10_209 g7 dX10_page_53 ?_
        have h := Option.some.inj h
        exact k_iret cx hr hlk (by rw [← h]) rfl dX10_page_56
      | 1, ho =>
        cases ho
        have hv : p2 = 1 := Int32.toInt_inj.mp (by rw [hs]; rfl)
        have h := ite_f h (show ¬ p2 = 0 from fun q => by rw [hv] at q; revert q; decide)
        have h := ite_t h hv
        refine ⟨by decide, ?_⟩
        refine k_aload_n cx 0 dX10_page_57 rfl rfl ?_
        obtain ⟨a8, g9, h⟩ := bind_ok h
        refine q_getI cx fl_X10_212 g9 dX10_page_58 ?_
        have h := Option.some.inj h
        exact k_iret cx hr hlk (by rw [← h]) rfl dX10_page_61
      | 2, ho =>
        cases ho
        have hv : p2 = 2 := Int32.toInt_inj.mp (by rw [hs]; rfl)
        have h := ite_f h (show ¬ p2 = 0 from fun q => by rw [hv] at q; revert q; decide)
        have h := ite_f h (show ¬ p2 = 1 from fun q => by rw [hv] at q; revert q; decide)
        have h := ite_t h hv
        refine ⟨by decide, ?_⟩
        refine k_aload_n cx 0 dX10_page_62 rfl rfl ?_
        obtain ⟨a10, g11, h⟩ := bind_ok h
        refine q_getI cx fl_X10_215 g11 dX10_page_63 ?_
        obtain ⟨q12, g13, h⟩ := bind_ok h
        refine k_callS cx iv_X10_112 (w_X10_oneIf g13) (As := [.int (hpI σ 132 a10)]) rfl rfl ⟨Nat.le_of_ble_eq_true rfl, Nat.le_of_ble_eq_true rfl⟩ (by simp [cat_rf, cat_i, cat_j]) dX10_page_66 ?_
        have h := Option.some.inj h
        exact k_iret cx hr hlk (by rw [← h]) rfl dX10_page_69
      | 3, ho =>
        cases ho
        have hv : p2 = 3 := Int32.toInt_inj.mp (by rw [hs]; rfl)
        have h := ite_f h (show ¬ p2 = 0 from fun q => by rw [hv] at q; revert q; decide)
        have h := ite_f h (show ¬ p2 = 1 from fun q => by rw [hv] at q; revert q; decide)
        have h := ite_f h (show ¬ p2 = 2 from fun q => by rw [hv] at q; revert q; decide)
        have h := ite_t h hv
        refine ⟨by decide, ?_⟩
        refine k_aload_n cx 0 dX10_page_70 rfl rfl ?_
        obtain ⟨a14, g15, h⟩ := bind_ok h
        refine q_getI cx fl_X10_218 g15 dX10_page_71 ?_
        have h := Option.some.inj h
        exact k_iret cx hr hlk (by rw [← h]) rfl dX10_page_74
      | 4, ho =>
        cases ho
        have hv : p2 = 4 := Int32.toInt_inj.mp (by rw [hs]; rfl)
        have h := ite_f h (show ¬ p2 = 0 from fun q => by rw [hv] at q; revert q; decide)
        have h := ite_f h (show ¬ p2 = 1 from fun q => by rw [hv] at q; revert q; decide)
        have h := ite_f h (show ¬ p2 = 2 from fun q => by rw [hv] at q; revert q; decide)
        have h := ite_f h (show ¬ p2 = 3 from fun q => by rw [hv] at q; revert q; decide)
        have h := ite_t h hv
        refine ⟨by decide, ?_⟩
        refine k_aload_n cx 0 dX10_page_75 rfl rfl ?_
        obtain ⟨a16, g17, h⟩ := bind_ok h
        refine q_getI cx fl_X10_219 g17 dX10_page_76 ?_
        have h := Option.some.inj h
        exact k_iret cx hr hlk (by rw [← h]) rfl dX10_page_79
      | k + 5, ho => exact absurd ho (by simp)
set_option maxRecDepth 100000 in
set_option maxHeartbeats 4000000 in
theorem w_X10_distance {Γ : GE} {σ : St} {t : Nat} {p1 : Int32} {ρ : Int32} (hk : hpK σ t = 10) (h : f_X10_distance σ t p1 = some ρ) : Ct Γ yX10_distance cX10_distance 4 (some .int) 7 188 [va_rf (some t), .int p1] σ (some (.int ρ)) σ := by
  refine ct_intro (own := RX10) (L0 := [(0, va_rf (some t)), (1, .int p1)]) (by decide +kernel) rfl (by simp [lg_sl, cat_rf, cat_i, cat_j]) (by simp [lv_args, cat_rf, cat_i, cat_j]) ?_
  intro p l e s m args below meth c hr hlk hin cx
  have hk0 := dn_eq hk
  unfold f_X10_distance at h
  refine k_aload_n cx 0 dX10_distance_0 rfl rfl ?_
  refine q_getR cx fl_X10_33 hk0 dX10_distance_1 ?_
  refine k_iload_n cx 1 dX10_distance_4 rfl rfl ?_
  obtain ⟨a1, g2, h⟩ := bind_ok h
  obtain ⟨q3, g4, h⟩ := bind_ok h
  refine k_callV cx iv_X10_222 (ci := 1) rfl (by decide) (w_X1_stanzaAt (dn_some g2).2 g4) g2 (As := [.int p1]) rfl rfl ⟨Nat.le_of_ble_eq_true rfl, Nat.le_of_ble_eq_true rfl⟩ (by simp [cat_rf, cat_i, cat_j]) dX10_distance_5 ?_
  refine k_astore_n cx (i := 2) [(2, va_rf q3), (0, va_rf (some t)), (1, .int p1)] dX10_distance_8 rfl (by decide) (by simp [cat_rf, cat_i, cat_j]) ?_
  refine k_aload_n cx 0 dX10_distance_9 rfl rfl ?_
  refine k_ifnonnull cx 16 dX10_distance_10 (by decide) (fun c5 => ?_) (fun a15 c5 => ?_)
  · have h := ite_t h c5
    refine k_bipush cx (-2) dX10_distance_13 (by decide) ?_
    have h := Option.some.inj h
    exact k_iret cx hr hlk (by rw [← h]) rfl dX10_distance_15
  · have h := ite_f h (ne_nn c5)
    refine k_aload_n cx 1 dX10_distance_16 rfl rfl ?_
    refine q_getR cx fl_X10_12 hk0 dX10_distance_17 ?_
    obtain ⟨a6, g7, h⟩ := bind_ok h
    obtain ⟨q8, g9, h⟩ := bind_ok h
    refine k_callV cx iv_X10_48 (ci := 8) rfl (by decide) (w_X8_shapeFault (dn_some g7).2 g9) g7 (As := []) rfl rfl ⟨Nat.le_of_ble_eq_true rfl, Nat.le_of_ble_eq_true rfl⟩ (by simp [cat_rf, cat_i, cat_j]) dX10_distance_20 ?_
    refine k_istore_n cx (i := 3) [(3, .int q8), (2, va_rf q3), (0, va_rf (some t)), (1, .int p1)] dX10_distance_23 rfl (by decide) (by simp [cat_rf, cat_i, cat_j]) ?_
    refine k_iload_n cx 0 dX10_distance_24 rfl rfl ?_
    refine k_iconst cx (-1) dX10_distance_25 (by decide) ?_
    refine k_icmp_eq cx 35 dX10_distance_26 (by decide) (fun c10 => ?_) (fun c10 => ?_)
    · have h := ite_t h c10
      refine k_aload_n cx 2 dX10_distance_35 rfl rfl ?_
      refine q_getR cx fl_X10_33 hk0 dX10_distance_36 ?_
      refine k_aload_n cx 2 dX10_distance_39 rfl rfl ?_
      refine q_getR cx fl_X10_12 hk0 dX10_distance_40 ?_
      obtain ⟨q11, g12, h⟩ := bind_ok h
      refine k_callV cx iv_X10_226 (ci := 8) rfl (by decide) (w_X8_namedShape (dn_some g7).2 g12) g7 (As := []) rfl rfl ⟨Nat.le_of_ble_eq_true rfl, Nat.le_of_ble_eq_true rfl⟩ (by simp [cat_rf, cat_i, cat_j]) dX10_distance_43 ?_
      refine k_aload_n cx 1 dX10_distance_46 rfl rfl ?_
      obtain ⟨q13, g14, h⟩ := bind_ok h
      refine k_callV cx iv_X10_229 (ci := 1) rfl (by decide) (w_X1_distanceFrom (dn_some g2).2 g14) g2 (As := [.int q11, va_rf q3]) rfl rfl ⟨Nat.le_of_ble_eq_true rfl, Nat.le_of_ble_eq_true rfl⟩ (by simp [cat_rf, cat_i, cat_j]) dX10_distance_47 ?_
      have h := Option.some.inj h
      exact k_iret cx hr hlk (by rw [← h]) rfl dX10_distance_50
    · have h := ite_f h c10
      refine k_sipush cx (-2000) dX10_distance_29 (by decide) ?_
      refine k_iload_n cx 0 dX10_distance_32 rfl rfl ?_
      refine k_isub cx dX10_distance_33 ?_
      have h := Option.some.inj h
      exact k_iret cx hr hlk (by rw [← h]) rfl dX10_distance_34
set_option maxRecDepth 100000 in
set_option maxHeartbeats 4000000 in
theorem w_X10_shape {Γ : GE} {σ : St} {t : Nat} {p1 : Int32} {ρ : Int32} (hk : hpK σ t = 10) (h : f_X10_shape σ t p1 = some ρ) : Ct Γ yX10_shape cX10_shape 7 (some .int) 4 92 [va_rf (some t), .int p1] σ (some (.int ρ)) σ := by
  refine ct_intro (own := RX10) (L0 := [(0, va_rf (some t)), (1, .int p1)]) (by decide +kernel) rfl (by simp [lg_sl, cat_rf, cat_i, cat_j]) (by simp [lv_args, cat_rf, cat_i, cat_j]) ?_
  intro p l e s m args below meth c hr hlk hin cx
  have hk0 := dn_eq hk
  unfold f_X10_shape at h
  refine k_aload_n cx 0 dX10_shape_0 rfl rfl ?_
  refine q_getR cx fl_X10_33 hk0 dX10_shape_1 ?_
  refine k_iload_n cx 1 dX10_shape_4 rfl rfl ?_
  obtain ⟨a1, g2, h⟩ := bind_ok h
  obtain ⟨q3, g4, h⟩ := bind_ok h
  refine k_callV cx iv_X10_222 (ci := 1) rfl (by decide) (w_X1_stanzaAt (dn_some g2).2 g4) g2 (As := [.int p1]) rfl rfl ⟨Nat.le_of_ble_eq_true rfl, Nat.le_of_ble_eq_true rfl⟩ (by simp [cat_rf, cat_i, cat_j]) dX10_shape_5 ?_
  refine k_astore_n cx (i := 2) [(2, va_rf q3), (0, va_rf (some t)), (1, .int p1)] dX10_shape_8 rfl (by decide) (by simp [cat_rf, cat_i, cat_j]) ?_
  refine k_aload_n cx 0 dX10_shape_9 rfl rfl ?_
  refine k_ifnonnull cx 16 dX10_shape_10 (by decide) (fun c5 => ?_) (fun a17 c5 => ?_)
  · have h := ite_t h c5
    refine k_bipush cx (-2) dX10_shape_13 (by decide) ?_
    have h := Option.some.inj h
    exact k_iret cx hr hlk (by rw [← h]) rfl dX10_shape_15
  · have h := ite_f h (ne_nn c5)
    refine k_iconst cx 0 dX10_shape_16 (by decide) ?_
    refine k_istore_n cx (i := 3) [(3, .int 0), (2, va_rf q3), (0, va_rf (some t)), (1, .int p1)] dX10_shape_17 rfl (by decide) (by simp [cat_rf, cat_i, cat_j]) ?_
    refine k_aload_n cx 2 dX10_shape_18 rfl rfl ?_
    refine q_getR cx fl_X10_33 hk0 dX10_shape_19 ?_
    refine k_iconst cx 0 dX10_shape_22 (by decide) ?_
    refine k_aload_n cx 1 dX10_shape_23 rfl rfl ?_
    obtain ⟨q6, g7, h⟩ := bind_ok h
    refine k_callV cx iv_X10_229 (ci := 1) rfl (by decide) (w_X1_distanceFrom (dn_some g2).2 g7) g2 (As := [.int 0, va_rf q3]) rfl rfl ⟨Nat.le_of_ble_eq_true rfl, Nat.le_of_ble_eq_true rfl⟩ (by simp [cat_rf, cat_i, cat_j]) dX10_shape_24 ?_
    refine k_istore cx [(4, .int q6), (3, .int 0), (2, va_rf q3), (0, va_rf (some t)), (1, .int p1)] dX10_shape_27 (by decide) (by simp [cat_rf, cat_i, cat_j]) ?_
    refine k_iconst cx 1 dX10_shape_29 (by decide) ?_
    refine k_istore cx [(5, .int 1), (4, .int q6), (3, .int 0), (2, va_rf q3), (0, va_rf (some t)), (1, .int p1)] dX10_shape_30 (by decide) (by simp [cat_rf, cat_i, cat_j]) ?_
    obtain ⟨x9, hxx9, h⟩ := bind_ok h
    have Kx9 : Og p l e s m args below meth c Γ 7 4 92 σ (some (.int ρ)) σ 70 [(3, .int x9)] [] σ := by
      refine k_iload_n cx 0 dX10_shape_70 rfl rfl ?_
      have h := Option.some.inj h
      exact k_iret cx hr hlk (by rw [← h]) rfl dX10_shape_71
    have KLx9 : ∀ (n : Nat) (v3 : Int32) (v4 : Int32) (v5 : Int32), LX10_shape_32 n σ t q3 v3 v4 v5 = some x9 → Og p l e s m args below meth c Γ 7 4 92 σ (some (.int ρ)) σ 32 [(0, va_rf (some t)), (2, va_rf q3), (3, .int v3), (4, .int v4), (5, .int v5)] [] σ := by
      intro n
      induction n with
      | zero => intro _ _ _ h; cases (show (none : Option _) = some x9 from h)
      | succ n ihx9 =>
        intro v3 v4 v5 h
        rw [LX10_shape_32] at h
        refine k_iload cx 4 dX10_shape_32 rfl ?_
        refine k_iconst cx 4 dX10_shape_34 (by decide) ?_
        refine k_icmp_ge cx 70 dX10_shape_35 (by decide) (fun c10 => ?_) (fun c10 => ?_)
        · have h := ite_t h c10
          refine k_sub [2] rfl ?_
          obtain rfl := Option.some.inj h
          exact Kx9
        · have h := ite_f h c10
          refine k_aload_n cx 0 dX10_shape_38 rfl rfl ?_
          refine q_getR cx fl_X10_33 hk0 dX10_shape_39 ?_
          refine k_iload cx 4 dX10_shape_42 rfl ?_
          refine k_aload_n cx 1 dX10_shape_44 rfl rfl ?_
          obtain ⟨a11, g12, h⟩ := bind_ok h
          obtain ⟨q13, g14, h⟩ := bind_ok h
          refine k_callV cx iv_X10_229 (ci := 1) rfl (by decide) (w_X1_distanceFrom (dn_some g12).2 g14) g12 (As := [.int v5, va_rf q3]) rfl rfl ⟨Nat.le_of_ble_eq_true rfl, Nat.le_of_ble_eq_true rfl⟩ (by simp [cat_rf, cat_i, cat_j]) dX10_shape_45 ?_
          refine k_istore cx [(6, .int q13), (0, va_rf (some t)), (2, va_rf q3), (3, .int v3), (4, .int v4), (5, .int v5)] dX10_shape_48 (by decide) (by simp [cat_rf, cat_i, cat_j]) ?_
          refine k_iload cx 0 dX10_shape_50 rfl ?_
          refine k_iload cx 4 dX10_shape_52 rfl ?_
          obtain ⟨x15, hxx15, h⟩ := bind_ok h
          have Kx15 : Og p l e s m args below meth c Γ 7 4 92 σ (some (.int ρ)) σ 64 [(0, va_rf (some t)), (2, va_rf q3), (3, .int x15.1), (4, .int x15.2), (5, .int v5)] [] σ := by
            refine k_iinc cx 4 [(5, .int (v5 + 1)), (0, va_rf (some t)), (2, va_rf q3), (3, .int x15.1), (4, .int x15.2)] (v5 + 1) dX10_shape_64 rfl rfl (by decide) (by simp [cat_rf, cat_i, cat_j]) ?_
            refine k_goto cx 32 dX10_shape_67 (by decide) ?_
            refine k_sub [1, 2, 3, 4, 0] rfl ?_
            exact ihx9 _ _ _ h
          have h := hxx15
          refine k_icmp_ge cx 64 dX10_shape_54 (by decide) (fun c16 => ?_) (fun c16 => ?_)
          · have h := ite_t h c16
            refine k_sub [1, 2, 3, 4, 5] rfl ?_
            obtain rfl := Option.some.inj h
            exact Kx15
          · have h := ite_f h c16
            refine k_iload cx 5 dX10_shape_57 rfl ?_
            refine k_istore_n cx (i := 3) [(3, .int v5), (6, .int q13), (0, va_rf (some t)), (2, va_rf q3), (4, .int v4), (5, .int v5)] dX10_shape_59 rfl (by decide) (by simp [cat_rf, cat_i, cat_j]) ?_
            refine k_iload cx 1 dX10_shape_60 rfl ?_
            refine k_istore cx [(4, .int q13), (3, .int v5), (6, .int q13), (0, va_rf (some t)), (2, va_rf q3), (5, .int v5)] dX10_shape_62 (by decide) (by simp [cat_rf, cat_i, cat_j]) ?_
            refine k_sub [3, 4, 1, 0, 5] rfl ?_
            obtain rfl := Option.some.inj h
            exact Kx15
    refine k_sub [4, 3, 2, 1, 0] rfl ?_
    exact KLx9 FU _ _ _ hxx9
set_option maxRecDepth 100000 in
set_option maxHeartbeats 4000000 in
theorem w_X10_numberWithWidth {Γ : GE} {σ : St} {t : Nat} {p1 : Int32} {p2 : Int32} {ρ : Int32 × St} (hk : hpK σ t = 10) (h : f_X10_numberWithWidth σ t p1 p2 = some ρ) : Ct Γ yX10_numberWithWidth cX10_numberWithWidth 3 (some .int) 6 149 [va_rf (some t), .int p1, .int p2] σ (some (.int ρ.1)) ρ.2 := by
  refine ct_intro (own := RX10) (L0 := [(0, va_rf (some t)), (1, .int p1), (2, .int p2)]) (by decide +kernel) rfl (by simp [lg_sl, cat_rf, cat_i, cat_j]) (by simp [lv_args, cat_rf, cat_i, cat_j]) ?_
  intro p l e s m args below meth c hr hlk hin cx
  have hk0 := dn_eq hk
  unfold f_X10_numberWithWidth at h
  refine k_aload_n cx 0 dX10_numberWithWidth_0 rfl rfl ?_
  refine q_getR cx fl_X10_37 hk0 dX10_numberWithWidth_1 ?_
  refine k_aload_n cx 0 dX10_numberWithWidth_4 rfl rfl ?_
  refine q_getR cx fl_X10_19 hk0 dX10_numberWithWidth_5 ?_
  refine k_iload_n cx 1 dX10_numberWithWidth_8 rfl rfl ?_
  obtain ⟨a1, g2, h⟩ := bind_ok h
  obtain ⟨q3, g4, h⟩ := bind_ok h
  refine k_callV cx iv_X10_237 (ci := 1) rfl (by decide) (w_X1_breakLines (dn_some g2).2 g4) g2 (As := [va_rf (hpR σ 321 t), .int p1]) rfl rfl ⟨Nat.le_of_ble_eq_true rfl, Nat.le_of_ble_eq_true rfl⟩ (by simp [cat_rf, cat_i, cat_j]) dX10_numberWithWidth_9 ?_
  refine k_iload_n cx 2 dX10_numberWithWidth_12 rfl rfl ?_
  refine k_iconst cx 1 dX10_numberWithWidth_13 (by decide) ?_
  refine k_icmp_ne cx 25 dX10_numberWithWidth_14 (by decide) (fun c5 => ?_) (fun c5 => ?_)
  · have h := ite_t h c5
    refine k_iload_n cx 2 dX10_numberWithWidth_25 rfl rfl ?_
    refine k_iconst cx 2 dX10_numberWithWidth_26 (by decide) ?_
    refine k_icmp_ne cx 38 dX10_numberWithWidth_27 (by decide) (fun c6 => ?_) (fun c6 => ?_)
    · have h := ite_t h c6
      refine k_aload_n cx 0 dX10_numberWithWidth_38 rfl rfl ?_
      obtain ⟨a7, g8, h⟩ := bind_ok h
      refine q_getR cx fl_X10_37 g8 dX10_numberWithWidth_39 ?_
      refine k_aload_n cx 0 dX10_numberWithWidth_42 rfl rfl ?_
      refine q_getR cx fl_X10_19 g8 dX10_numberWithWidth_43 ?_
      refine k_iconst cx 1 dX10_numberWithWidth_46 (by decide) ?_
      obtain ⟨a9, g10, h⟩ := bind_ok h
      obtain ⟨q11, g12, h⟩ := bind_ok h
      refine k_callV cx iv_X10_155 (ci := 5) rfl (by decide) (w_X5_setting (dn_some g10).2 g12) g10 (As := [.int 1]) rfl rfl ⟨Nat.le_of_ble_eq_true rfl, Nat.le_of_ble_eq_true rfl⟩ (by simp [cat_rf, cat_i, cat_j]) dX10_numberWithWidth_47 ?_
      refine k_aload_n cx 0 dX10_numberWithWidth_50 rfl rfl ?_
      refine q_getR cx fl_X10_19 g8 dX10_numberWithWidth_51 ?_
      refine k_iconst cx 4 dX10_numberWithWidth_54 (by decide) ?_
      obtain ⟨q13, g14, h⟩ := bind_ok h
      refine k_callV cx iv_X10_155 (ci := 5) rfl (by decide) (w_X5_setting (dn_some g10).2 g14) g10 (As := [.int 4]) rfl rfl ⟨Nat.le_of_ble_eq_true rfl, Nat.le_of_ble_eq_true rfl⟩ (by simp [cat_rf, cat_i, cat_j]) dX10_numberWithWidth_55 ?_
      obtain ⟨a15, g16, h⟩ := bind_ok h
      obtain ⟨q17, g18, h⟩ := bind_ok h
      refine k_callV cx iv_X10_241 (ci := 1) rfl (by decide) (w_X1_putOnPages (dn_some g16).2 g18) g16 (As := [.int q11, .int q13]) rfl rfl ⟨Nat.le_of_ble_eq_true rfl, Nat.le_of_ble_eq_true rfl⟩ (by simp [cat_rf, cat_i, cat_j]) dX10_numberWithWidth_58 ?_
      refine k_aload_n cx 0 dX10_numberWithWidth_61 rfl rfl ?_
      obtain ⟨a19, g20, h⟩ := bind_ok h
      refine q_getR cx fl_X10_37 g20 dX10_numberWithWidth_62 ?_
      obtain ⟨a21, g22, h⟩ := bind_ok h
      refine q_getI cx fl_X10_244 g22 dX10_numberWithWidth_65 ?_
      have h := Option.some.inj h
      exact k_iret cx hr hlk (by rw [← h]) (by rw [← h]) dX10_numberWithWidth_68
    · have h := ite_f h c6
      refine k_aload_n cx 0 dX10_numberWithWidth_30 rfl rfl ?_
      obtain ⟨a23, g24, h⟩ := bind_ok h
      refine q_getR cx fl_X10_37 g24 dX10_numberWithWidth_31 ?_
      obtain ⟨a25, g26, h⟩ := bind_ok h
      obtain ⟨q27, g28, h⟩ := bind_ok h
      refine k_callV cx iv_X10_253 (ci := 1) rfl (by decide) (w_X1_cuts (dn_some g26).2 g28) g26 (As := []) rfl rfl ⟨Nat.le_of_ble_eq_true rfl, Nat.le_of_ble_eq_true rfl⟩ (by simp [cat_rf, cat_i, cat_j]) dX10_numberWithWidth_34 ?_
      have h := Option.some.inj h
      exact k_iret cx hr hlk (by rw [← h]) (by rw [← h]) dX10_numberWithWidth_37
  · have h := ite_f h c5
    refine k_aload_n cx 0 dX10_numberWithWidth_17 rfl rfl ?_
    obtain ⟨a29, g30, h⟩ := bind_ok h
    refine q_getR cx fl_X10_37 g30 dX10_numberWithWidth_18 ?_
    obtain ⟨a31, g32, h⟩ := bind_ok h
    obtain ⟨q33, g34, h⟩ := bind_ok h
    refine k_callV cx iv_X10_250 (ci := 1) rfl (by decide) (w_X1_runOvers (dn_some g32).2 g34) g32 (As := []) rfl rfl ⟨Nat.le_of_ble_eq_true rfl, Nat.le_of_ble_eq_true rfl⟩ (by simp [cat_rf, cat_i, cat_j]) dX10_numberWithWidth_21 ?_
    have h := Option.some.inj h
    exact k_iret cx hr hlk (by rw [← h]) (by rw [← h]) dX10_numberWithWidth_24
set_option maxRecDepth 100000 in
set_option maxHeartbeats 4000000 in
theorem w_X10_bestWidth {Γ : GE} {σ : St} {t : Nat} {p1 : Int32} {ρ : Int32 × St} (hk : hpK σ t = 10) (h : f_X10_bestWidth σ t p1 = some ρ) : Ct Γ yX10_bestWidth cX10_bestWidth 6 (some .int) 7 171 [va_rf (some t), .int p1] σ (some (.int ρ.1)) ρ.2 := by
  refine ct_intro (own := RX10) (L0 := [(0, va_rf (some t)), (1, .int p1)]) (by decide +kernel) rfl (by simp [lg_sl, cat_rf, cat_i, cat_j]) (by simp [lv_args, cat_rf, cat_i, cat_j]) ?_
  intro p l e s m args below meth c hr hlk hin cx
  have hk0 := dn_eq hk
  unfold f_X10_bestWidth at h
  refine k_iload_n cx 1 dX10_bestWidth_0 rfl rfl ?_
  refine k_if_lt cx 9 dX10_bestWidth_1 (by decide) (fun c1 => ?_) (fun c1 => ?_)
  · have h := ite_t h c1
    refine k_bipush cx (-2) dX10_bestWidth_9 (by decide) ?_
    have h := Option.some.inj h
    exact k_iret cx hr hlk (by rw [← h]) (by rw [← h]) dX10_bestWidth_11
  · have h := ite_f h c1
    refine k_iload_n cx 1 dX10_bestWidth_4 rfl rfl ?_
    refine k_iconst cx 2 dX10_bestWidth_5 (by decide) ?_
    refine k_icmp_le cx 12 dX10_bestWidth_6 (by decide) (fun c2 => ?_) (fun c2 => ?_)
    · have h := ite_t h c2
      refine k_aload_n cx 0 dX10_bestWidth_12 rfl rfl ?_
      refine q_getR cx fl_X10_19 hk0 dX10_bestWidth_13 ?_
      obtain ⟨a3, g4, h⟩ := bind_ok h
      refine q_getI cx fl_X10_55 g4 dX10_bestWidth_16 ?_
      refine k_if_ne cx 25 dX10_bestWidth_19 (by decide) (fun c5 => ?_) (fun c5 => ?_)
      · have h := ite_t h c5
        refine k_iconst cx (-1) dX10_bestWidth_25 (by decide) ?_
        refine k_istore_n cx (i := 2) [(2, .int (-1)), (0, va_rf (some t)), (1, .int p1)] dX10_bestWidth_26 rfl (by decide) (by simp [cat_rf, cat_i, cat_j]) ?_
        refine k_iconst cx 0 dX10_bestWidth_27 (by decide) ?_
        refine k_istore_n cx (i := 3) [(3, .int 0), (2, .int (-1)), (0, va_rf (some t)), (1, .int p1)] dX10_bestWidth_28 rfl (by decide) (by simp [cat_rf, cat_i, cat_j]) ?_
        refine k_gets cx (i := 1) rfl gl_X10_144 dX10_bestWidth_29 ?_
        refine k_iconst cx 0 dX10_bestWidth_32 (by decide) ?_
        obtain ⟨q6, g7, h⟩ := bind_ok h
        refine k_callS cx iv_X10_148 (w_X10_element g7) (As := [va_rf (some (hpG σ 1)), .int 0]) rfl rfl ⟨Nat.le_of_ble_eq_true rfl, Nat.le_of_ble_eq_true rfl⟩ (by simp [cat_rf, cat_i, cat_j]) dX10_bestWidth_33 ?_
        refine k_istore cx [(4, .int q6), (3, .int 0), (2, .int (-1)), (0, va_rf (some t)), (1, .int p1)] dX10_bestWidth_36 (by decide) (by simp [cat_rf, cat_i, cat_j]) ?_
        obtain ⟨x9, hxx9, h⟩ := bind_ok h
        have Kx9 : Og p l e s m args below meth c Γ 6 7 171 σ (some (.int ρ.1)) ρ.2 82 [(2, .int x9.1)] [] x9.2 := by
          refine k_iload_n cx 0 dX10_bestWidth_82 rfl rfl ?_
          have h := Option.some.inj h
          exact k_iret cx hr hlk (by rw [← h]) (by rw [← h]) dX10_bestWidth_83
        have KLx9 : ∀ (n : Nat) (v2 : Int32) (v3 : Int32) (v4 : Int32) (τ : St), LX10_bestWidth_38 n t p1 v2 v3 v4 τ = some x9 → Og p l e s m args below meth c Γ 6 7 171 σ (some (.int ρ.1)) ρ.2 38 [(0, va_rf (some t)), (1, .int p1), (2, .int v2), (3, .int v3), (4, .int v4)] [] τ := by
          intro n
          induction n with
          | zero => intro _ _ _ _ h; cases (show (none : Option _) = some x9 from h)
          | succ n ihx9 =>
            intro v2 v3 v4 τ h
            rw [LX10_bestWidth_38] at h
            refine k_iload cx 4 dX10_bestWidth_38 rfl ?_
            refine k_gets cx (i := 2) rfl gl_X10_152 dX10_bestWidth_40 ?_
            refine k_iconst cx 0 dX10_bestWidth_43 (by decide) ?_
            obtain ⟨q10, g11, h⟩ := bind_ok h
            refine k_callS cx iv_X10_148 (w_X10_element g11) (As := [va_rf (some (hpG τ 2)), .int 0]) rfl rfl ⟨Nat.le_of_ble_eq_true rfl, Nat.le_of_ble_eq_true rfl⟩ (by simp [cat_rf, cat_i, cat_j]) dX10_bestWidth_44 ?_
            refine k_icmp_gt cx 82 dX10_bestWidth_47 (by decide) (fun c12 => ?_) (fun c12 => ?_)
            · have h := ite_t h c12
              refine k_sub [2] rfl ?_
              obtain rfl := Option.some.inj h
              exact Kx9
            · have h := ite_f h c12
              refine k_aload_n cx 0 dX10_bestWidth_50 rfl rfl ?_
              refine k_iload cx 4 dX10_bestWidth_51 rfl ?_
              refine k_iload_n cx 1 dX10_bestWidth_53 rfl rfl ?_
              obtain ⟨a13, g14, h⟩ := bind_ok h
              obtain ⟨q15, g16, h⟩ := bind_ok h
              refine k_callV cx iv_X10_233 (ci := 10) rfl (by decide) (w_X10_numberWithWidth (dn_some g14).2 g16) g14 (As := [.int v4, .int p1]) rfl rfl ⟨Nat.le_of_ble_eq_true rfl, Nat.le_of_ble_eq_true rfl⟩ (by simp [cat_rf, cat_i, cat_j]) dX10_bestWidth_54 ?_
              refine k_istore cx [(5, .int q15.1), (0, va_rf (some t)), (1, .int p1), (2, .int v2), (3, .int v3), (4, .int v4)] dX10_bestWidth_57 (by decide) (by simp [cat_rf, cat_i, cat_j]) ?_
              refine k_iload_n cx 3 dX10_bestWidth_59 rfl rfl ?_
              refine k_iconst cx (-1) dX10_bestWidth_60 (by decide) ?_
              obtain ⟨x17, hxx17, h⟩ := bind_ok h
              have Kx17 : Og p l e s m args below meth c Γ 6 7 171 σ (some (.int ρ.1)) ρ.2 76 [(0, va_rf (some t)), (1, .int p1), (2, .int x17.1), (3, .int x17.2), (4, .int v4)] [] q15.2 := by
                refine k_iinc cx 4 [(4, .int (v4 + 1)), (0, va_rf (some t)), (1, .int p1), (2, .int x17.1), (3, .int x17.2)] (v4 + 1) dX10_bestWidth_76 rfl rfl (by decide) (by simp [cat_rf, cat_i, cat_j]) ?_
                refine k_goto cx 38 dX10_bestWidth_79 (by decide) ?_
                refine k_sub [1, 2, 3, 4, 0] rfl ?_
                exact ihx9 _ _ _ _ h
              have h := hxx17
              refine k_icmp_eq cx 70 dX10_bestWidth_61 (by decide) (fun c18 => ?_) (fun c18 => ?_)
              · have h := ite_t h c18
                refine k_iload cx 5 dX10_bestWidth_70 rfl ?_
                refine k_istore_n cx (i := 2) [(2, .int v4), (5, .int q15.1), (0, va_rf (some t)), (1, .int p1), (3, .int v3), (4, .int v4)] dX10_bestWidth_72 rfl (by decide) (by simp [cat_rf, cat_i, cat_j]) ?_
                refine k_iload cx 1 dX10_bestWidth_73 rfl ?_
                refine k_istore_n cx (i := 3) [(3, .int q15.1), (2, .int v4), (5, .int q15.1), (0, va_rf (some t)), (1, .int p1), (4, .int v4)] dX10_bestWidth_75 rfl (by decide) (by simp [cat_rf, cat_i, cat_j]) ?_
                refine k_sub [3, 4, 1, 0, 5] rfl ?_
                obtain rfl := Option.some.inj h
                exact Kx17
              · have h := ite_f h c18
                refine k_iload cx 0 dX10_bestWidth_64 rfl ?_
                refine k_iload_n cx 4 dX10_bestWidth_66 rfl rfl ?_
                refine k_icmp_ge cx 76 dX10_bestWidth_67 (by decide) (fun c19 => ?_) (fun c19 => ?_)
                · have h := ite_t h c19
                  refine k_sub [1, 2, 3, 4, 5] rfl ?_
                  obtain rfl := Option.some.inj h
                  exact Kx17
                · have h := ite_f h c19
                  refine k_iload cx 5 dX10_bestWidth_70 rfl ?_
                  refine k_istore_n cx (i := 2) [(2, .int v4), (5, .int q15.1), (0, va_rf (some t)), (1, .int p1), (3, .int v3), (4, .int v4)] dX10_bestWidth_72 rfl (by decide) (by simp [cat_rf, cat_i, cat_j]) ?_
                  refine k_iload cx 1 dX10_bestWidth_73 rfl ?_
                  refine k_istore_n cx (i := 3) [(3, .int q15.1), (2, .int v4), (5, .int q15.1), (0, va_rf (some t)), (1, .int p1), (4, .int v4)] dX10_bestWidth_75 rfl (by decide) (by simp [cat_rf, cat_i, cat_j]) ?_
                  refine k_sub [3, 4, 1, 0, 5] rfl ?_
                  obtain rfl := Option.some.inj h
                  exact Kx17
        refine k_sub [3, 4, 2, 1, 0] rfl ?_
        exact KLx9 FU _ _ _ _ hxx9
      · have h := ite_f h c5
        refine k_bipush cx (-3) dX10_bestWidth_22 (by decide) ?_
        have h := Option.some.inj h
        exact k_iret cx hr hlk (by rw [← h]) (by rw [← h]) dX10_bestWidth_24
    · have h := ite_f h c2
      refine k_bipush cx (-2) dX10_bestWidth_9 (by decide) ?_
      have h := Option.some.inj h
      exact k_iret cx hr hlk (by rw [← h]) (by rw [← h]) dX10_bestWidth_11
set_option maxRecDepth 100000 in
set_option maxHeartbeats 4000000 in
theorem w_X10_leastHeight {Γ : GE} {σ : St} {t : Nat} {p1 : Int32} {ρ : Int32 × St} (hk : hpK σ t = 10) (h : f_X10_leastHeight σ t p1 = some ρ) : Ct Γ yX10_leastHeight cX10_leastHeight 3 (some .int) 6 149 [va_rf (some t), .int p1] σ (some (.int ρ.1)) ρ.2 := by
  refine ct_intro (own := RX10) (L0 := [(0, va_rf (some t)), (1, .int p1)]) (by decide +kernel) rfl (by simp [lg_sl, cat_rf, cat_i, cat_j]) (by simp [lv_args, cat_rf, cat_i, cat_j]) ?_
  intro p l e s m args below meth c hr hlk hin cx
  have hk0 := dn_eq hk
  unfold f_X10_leastHeight at h
  refine k_iload_n cx 1 dX10_leastHeight_0 rfl rfl ?_
  refine k_iconst cx 1 dX10_leastHeight_1 (by decide) ?_
  refine k_icmp_lt cx 11 dX10_leastHeight_2 (by decide) (fun c1 => ?_) (fun c1 => ?_)
  · have h := ite_t h c1
    refine k_bipush cx (-2) dX10_leastHeight_11 (by decide) ?_
    have h := Option.some.inj h
    exact k_iret cx hr hlk (by rw [← h]) (by rw [← h]) dX10_leastHeight_13
  · have h := ite_f h c1
    refine k_iload_n cx 1 dX10_leastHeight_5 rfl rfl ?_
    refine k_bipush cx 99 dX10_leastHeight_6 (by decide) ?_
    refine k_icmp_le cx 14 dX10_leastHeight_8 (by decide) (fun c2 => ?_) (fun c2 => ?_)
    · have h := ite_t h c2
      refine k_aload_n cx 0 dX10_leastHeight_14 rfl rfl ?_
      refine q_getR cx fl_X10_37 hk0 dX10_leastHeight_15 ?_
      refine k_aload_n cx 0 dX10_leastHeight_18 rfl rfl ?_
      refine q_getR cx fl_X10_19 hk0 dX10_leastHeight_19 ?_
      refine k_aload_n cx 0 dX10_leastHeight_22 rfl rfl ?_
      refine q_getR cx fl_X10_19 hk0 dX10_leastHeight_23 ?_
      refine k_iconst cx 0 dX10_leastHeight_26 (by decide) ?_
      obtain ⟨a3, g4, h⟩ := bind_ok h
      obtain ⟨q5, g6, h⟩ := bind_ok h
      refine k_callV cx iv_X10_155 (ci := 5) rfl (by decide) (w_X5_setting (dn_some g4).2 g6) g4 (As := [.int 0]) rfl rfl ⟨Nat.le_of_ble_eq_true rfl, Nat.le_of_ble_eq_true rfl⟩ (by simp [cat_rf, cat_i, cat_j]) dX10_leastHeight_27 ?_
      obtain ⟨a7, g8, h⟩ := bind_ok h
      obtain ⟨q9, g10, h⟩ := bind_ok h
      refine k_callV cx iv_X10_237 (ci := 1) rfl (by decide) (w_X1_breakLines (dn_some g8).2 g10) g8 (As := [va_rf (hpR σ 321 t), .int q5]) rfl rfl ⟨Nat.le_of_ble_eq_true rfl, Nat.le_of_ble_eq_true rfl⟩ (by simp [cat_rf, cat_i, cat_j]) dX10_leastHeight_30 ?_
      refine k_gets cx (i := 1) rfl gl_X10_144 dX10_leastHeight_33 ?_
      refine k_iconst cx 1 dX10_leastHeight_36 (by decide) ?_
      obtain ⟨q11, g12, h⟩ := bind_ok h
      refine k_callS cx iv_X10_148 (w_X10_element g12) (As := [va_rf (some (hpG q9 1)), .int 1]) rfl rfl ⟨Nat.le_of_ble_eq_true rfl, Nat.le_of_ble_eq_true rfl⟩ (by simp [cat_rf, cat_i, cat_j]) dX10_leastHeight_37 ?_
      refine k_istore_n cx (i := 2) [(2, .int q11), (0, va_rf (some t)), (1, .int p1)] dX10_leastHeight_40 rfl (by decide) (by simp [cat_rf, cat_i, cat_j]) ?_
      obtain ⟨x14, hxx14, Hx14⟩ := sb_ok h
      have Kx14 : ∀ wx14, .inr wx14 = x14 → Og p l e s m args below meth c Γ 3 6 149 σ (some (.int ρ.1)) ρ.2 87 [] [] wx14 := by
        intro wx14 hw
        have h := sb_inr hw Hx14
        refine k_iconst cx (-1) dX10_leastHeight_87 (by decide) ?_
        have h := Option.some.inj h
        exact k_iret cx hr hlk (by rw [← h]) (by rw [← h]) dX10_leastHeight_88
      have KLx14 : ∀ (n : Nat) (v2 : Int32) (τ : St), LX10_leastHeight_41 n t p1 v2 τ = some x14 → Og p l e s m args below meth c Γ 3 6 149 σ (some (.int ρ.1)) ρ.2 41 [(0, va_rf (some t)), (1, .int p1), (2, .int v2)] [] τ := by
        intro n
        induction n with
        | zero => intro _ _ h; cases (show (none : Option _) = some x14 from h)
        | succ n ihx14 =>
          intro v2 τ h
          rw [LX10_leastHeight_41] at h
          refine k_iload_n cx 2 dX10_leastHeight_41 rfl rfl ?_
          refine k_gets cx (i := 2) rfl gl_X10_152 dX10_leastHeight_42 ?_
          refine k_iconst cx 1 dX10_leastHeight_45 (by decide) ?_
          obtain ⟨q15, g16, h⟩ := bind_ok h
          refine k_callS cx iv_X10_148 (w_X10_element g16) (As := [va_rf (some (hpG τ 2)), .int 1]) rfl rfl ⟨Nat.le_of_ble_eq_true rfl, Nat.le_of_ble_eq_true rfl⟩ (by simp [cat_rf, cat_i, cat_j]) dX10_leastHeight_46 ?_
          refine k_icmp_gt cx 87 dX10_leastHeight_49 (by decide) (fun c17 => ?_) (fun c17 => ?_)
          · have h := ite_t h c17
            refine k_sub [] rfl ?_
            exact Kx14 _ (Option.some.inj h)
          · have h := ite_f h c17
            refine k_aload_n cx 0 dX10_leastHeight_52 rfl rfl ?_
            obtain ⟨a18, g19, h⟩ := bind_ok h
            refine q_getR cx fl_X10_37 g19 dX10_leastHeight_53 ?_
            refine k_iload_n cx 2 dX10_leastHeight_56 rfl rfl ?_
            refine k_aload_n cx 0 dX10_leastHeight_57 rfl rfl ?_
            refine q_getR cx fl_X10_19 g19 dX10_leastHeight_58 ?_
            refine k_iconst cx 4 dX10_leastHeight_61 (by decide) ?_
            obtain ⟨a20, g21, h⟩ := bind_ok h
            obtain ⟨q22, g23, h⟩ := bind_ok h
            refine k_callV cx iv_X10_155 (ci := 5) rfl (by decide) (w_X5_setting (dn_some g21).2 g23) g21 (As := [.int 4]) rfl rfl ⟨Nat.le_of_ble_eq_true rfl, Nat.le_of_ble_eq_true rfl⟩ (by simp [cat_rf, cat_i, cat_j]) dX10_leastHeight_62 ?_
            obtain ⟨a24, g25, h⟩ := bind_ok h
            obtain ⟨q26, g27, h⟩ := bind_ok h
            refine k_callV cx iv_X10_241 (ci := 1) rfl (by decide) (w_X1_putOnPages (dn_some g25).2 g27) g25 (As := [.int v2, .int q22]) rfl rfl ⟨Nat.le_of_ble_eq_true rfl, Nat.le_of_ble_eq_true rfl⟩ (by simp [cat_rf, cat_i, cat_j]) dX10_leastHeight_65 ?_
            refine k_aload_n cx 0 dX10_leastHeight_68 rfl rfl ?_
            obtain ⟨a28, g29, h⟩ := bind_ok h
            refine q_getR cx fl_X10_37 g29 dX10_leastHeight_69 ?_
            obtain ⟨a30, g31, h⟩ := bind_ok h
            refine q_getI cx fl_X10_244 g31 dX10_leastHeight_72 ?_
            refine k_iload_n cx 1 dX10_leastHeight_75 rfl rfl ?_
            refine k_icmp_gt cx 81 dX10_leastHeight_76 (by decide) (fun c32 => ?_) (fun c32 => ?_)
            · have h := ite_t h c32
              refine k_iinc cx 2 [(2, .int (v2 + 1)), (0, va_rf (some t)), (1, .int p1)] (v2 + 1) dX10_leastHeight_81 rfl rfl (by decide) (by simp [cat_rf, cat_i, cat_j]) ?_
              refine k_goto cx 41 dX10_leastHeight_84 (by decide) ?_
              refine k_sub [1, 2, 0] rfl ?_
              exact ihx14 _ _ h
            · have h := ite_f h c32
              refine k_iload_n cx 2 dX10_leastHeight_79 rfl rfl ?_
              have h := Option.some.inj h
              have h := sb_ret h Hx14
              exact k_iret cx hr hlk (by rw [← h]) (by rw [← h]) dX10_leastHeight_80
      refine k_sub [1, 2, 0] rfl ?_
      exact KLx14 FU _ _ hxx14
    · have h := ite_f h c2
      refine k_bipush cx (-2) dX10_leastHeight_11 (by decide) ?_
      have h := Option.some.inj h
      exact k_iret cx hr hlk (by rw [← h]) (by rw [← h]) dX10_leastHeight_13
set_option maxRecDepth 100000 in
set_option maxHeartbeats 4000000 in
theorem w_X10_countedSetting {Γ : GE} {σ : St} {t : Nat} {p1 : Int32} {p2 : Int32} {ρ : Int32} (hk : hpK σ t = 10) (h : f_X10_countedSetting σ t p1 p2 = some ρ) : Ct Γ yX10_countedSetting cX10_countedSetting 3 (some .int) 2 42 [va_rf (some t), .int p1, .int p2] σ (some (.int ρ)) σ := by
  refine ct_intro (own := RX10) (L0 := [(0, va_rf (some t)), (1, .int p1), (2, .int p2)]) (by decide +kernel) rfl (by simp [lg_sl, cat_rf, cat_i, cat_j]) (by simp [lv_args, cat_rf, cat_i, cat_j]) ?_
  intro p l e s m args below meth c hr hlk hin cx
  have hk0 := dn_eq hk
  unfold f_X10_countedSetting at h
  refine k_iload_n cx 2 dX10_countedSetting_0 rfl rfl ?_
  refine k_bipush cx 11 dX10_countedSetting_1 (by decide) ?_
  refine k_icmp_lt cx 12 dX10_countedSetting_3 (by decide) (fun c1 => ?_) (fun c1 => ?_)
  · have h := ite_t h c1
    refine k_bipush cx (-2) dX10_countedSetting_12 (by decide) ?_
    refine k_goto cx 25 dX10_countedSetting_14 (by decide) ?_
    have h := Option.some.inj h
    exact k_iret cx hr hlk (by rw [← h]) rfl dX10_countedSetting_25
  · have h := ite_f h c1
    refine k_iload_n cx 2 dX10_countedSetting_6 rfl rfl ?_
    refine k_bipush cx 16 dX10_countedSetting_7 (by decide) ?_
    refine k_icmp_lt cx 17 dX10_countedSetting_9 (by decide) (fun c2 => ?_) (fun c2 => ?_)
    · have h := ite_t h c2
      refine k_aload_n cx 0 dX10_countedSetting_17 rfl rfl ?_
      refine q_getR cx fl_X10_19 hk0 dX10_countedSetting_18 ?_
      refine k_iload_n cx 1 dX10_countedSetting_21 rfl rfl ?_
      obtain ⟨a3, g4, h⟩ := bind_ok h
      obtain ⟨q5, g6, h⟩ := bind_ok h
      refine k_callV cx iv_X10_155 (ci := 5) rfl (by decide) (w_X5_setting (dn_some g4).2 g6) g4 (As := [.int p1]) rfl rfl ⟨Nat.le_of_ble_eq_true rfl, Nat.le_of_ble_eq_true rfl⟩ (by simp [cat_rf, cat_i, cat_j]) dX10_countedSetting_22 ?_
      have h := Option.some.inj h
      exact k_iret cx hr hlk (by rw [← h]) rfl dX10_countedSetting_25
    · have h := ite_f h c2
      refine k_bipush cx (-2) dX10_countedSetting_12 (by decide) ?_
      refine k_goto cx 25 dX10_countedSetting_14 (by decide) ?_
      have h := Option.some.inj h
      exact k_iret cx hr hlk (by rw [← h]) rfl dX10_countedSetting_25
set_option maxRecDepth 100000 in
set_option maxHeartbeats 4000000 in
theorem w_X10_count {Γ : GE} {σ : St} {t : Nat} {p1 : Int32} {ρ : Int32} (hk : hpK σ t = 10) (h : f_X10_count σ t p1 = some ρ) : Ct Γ yX10_count cX10_count 2 (some .int) 3 67 [va_rf (some t), .int p1] σ (some (.int ρ)) σ := by
  refine ct_intro (own := RX10) (L0 := [(0, va_rf (some t)), (1, .int p1)]) (by decide +kernel) rfl (by simp [lg_sl, cat_rf, cat_i, cat_j]) (by simp [lv_args, cat_rf, cat_i, cat_j]) ?_
  intro p l e s m args below meth c hr hlk hin cx
  have hk0 := dn_eq hk
  unfold f_X10_count at h
  refine k_iload_n cx 1 dX10_count_0 rfl rfl ?_
  refine k_switch cx dX10_count_1 (by decide) (fun hs => ?_) (by decide) (fun k off ho hs => ?_)
  · have h0 : ¬ p1 = 0 := fun q => by rw [q] at hs; revert hs; decide
    have h1 : ¬ p1 = 1 := fun q => by rw [q] at hs; revert hs; decide
    have h2 : ¬ p1 = 2 := fun q => by rw [q] at hs; revert hs; decide
    have h3 : ¬ p1 = 3 := fun q => by rw [q] at hs; revert hs; decide
    have h4 : ¬ p1 = 4 := fun q => by rw [q] at hs; revert hs; decide
    have h5 : ¬ p1 = 5 := fun q => by rw [q] at hs; revert hs; decide
    have h6 : ¬ p1 = 6 := fun q => by rw [q] at hs; revert hs; decide
    have h7 : ¬ p1 = 7 := fun q => by rw [q] at hs; revert hs; decide
    have h8 : ¬ p1 = 8 := fun q => by rw [q] at hs; revert hs; decide
    have h9 : ¬ p1 = 9 := fun q => by rw [q] at hs; revert hs; decide
    have h10 : ¬ p1 = 10 := fun q => by rw [q] at hs; revert hs; decide
    have h := ite_f h h0
    have h := ite_f h h1
    have h := ite_f h h2
    have h := ite_f h h3
    have h := ite_f h h4
    have h := ite_f h h5
    have h := ite_f h h6
    have h := ite_f h h7
    have h := ite_f h h8
    have h := ite_f h h9
    have h := ite_f h h10
    refine k_aload_n cx 0 dX10_count_156 rfl rfl ?_
    refine k_iload_n cx 1 dX10_count_157 rfl rfl ?_
    refine k_bipush cx 11 dX10_count_158 (by decide) ?_
    refine k_isub cx dX10_count_160 ?_
    refine k_iload_n cx 1 dX10_count_161 rfl rfl ?_
    obtain ⟨q33, g34, h⟩ := bind_ok h
    refine k_callV cx iv_X10_265 (ci := 10) rfl (by decide) (w_X10_countedSetting (dn_some hk0).2 g34) hk0 (As := [.int (p1 - 11), .int p1]) rfl rfl ⟨Nat.le_of_ble_eq_true rfl, Nat.le_of_ble_eq_true rfl⟩ (by simp [cat_rf, cat_i, cat_j]) dX10_count_162 ?_
    have h := Option.some.inj h
    exact k_iret cx hr hlk (by rw [← h]) rfl dX10_count_165
  · match k, ho with
    | 0, ho =>
      cases ho
      have hv : p1 = 0 := Int32.toInt_inj.mp (by rw [hs]; rfl)
      have h := ite_t h hv
      refine ⟨by decide, ?_⟩
      refine k_aload_n cx 0 dX10_count_60 rfl rfl ?_
      refine q_getR cx fl_X10_19 hk0 dX10_count_61 ?_
      obtain ⟨a1, g2, h⟩ := bind_ok h
      refine q_getI cx fl_X10_55 g2 dX10_count_64 ?_
      have h := Option.some.inj h
      exact k_iret cx hr hlk (by rw [← h]) rfl dX10_count_67
    | 1, ho =>
      cases ho
      have hv : p1 = 1 := Int32.toInt_inj.mp (by rw [hs]; rfl)
      have h := ite_f h (show ¬ p1 = 0 from fun q => by rw [hv] at q; revert q; decide)
      have h := ite_t h hv
      refine ⟨by decide, ?_⟩
      refine k_aload_n cx 0 dX10_count_68 rfl rfl ?_
      refine q_getR cx fl_X10_33 hk0 dX10_count_69 ?_
      obtain ⟨a3, g4, h⟩ := bind_ok h
      refine q_getI cx fl_X10_96 g4 dX10_count_72 ?_
      have h := Option.some.inj h
      exact k_iret cx hr hlk (by rw [← h]) rfl dX10_count_75
    | 2, ho =>
      cases ho
      have hv : p1 = 2 := Int32.toInt_inj.mp (by rw [hs]; rfl)
      have h := ite_f h (show ¬ p1 = 0 from fun q => by rw [hv] at q; revert q; decide)
      have h := ite_f h (show ¬ p1 = 1 from fun q => by rw [hv] at q; revert q; decide)
      have h := ite_t h hv
      refine ⟨by decide, ?_⟩
      refine k_aload_n cx 0 dX10_count_76 rfl rfl ?_
      refine q_getR cx fl_X10_33 hk0 dX10_count_77 ?_
      obtain ⟨a5, g6, h⟩ := bind_ok h
      refine q_getI cx fl_X10_247 g6 dX10_count_80 ?_
      have h := Option.some.inj h
      exact k_iret cx hr hlk (by rw [← h]) rfl dX10_count_83
    | 3, ho =>
      cases ho
      have hv : p1 = 3 := Int32.toInt_inj.mp (by rw [hs]; rfl)
      have h := ite_f h (show ¬ p1 = 0 from fun q => by rw [hv] at q; revert q; decide)
      have h := ite_f h (show ¬ p1 = 1 from fun q => by rw [hv] at q; revert q; decide)
      have h := ite_f h (show ¬ p1 = 2 from fun q => by rw [hv] at q; revert q; decide)
      have h := ite_t h hv
      refine ⟨by decide, ?_⟩
      refine k_aload_n cx 0 dX10_count_84 rfl rfl ?_
      refine q_getR cx fl_X10_33 hk0 dX10_count_85 ?_
      obtain ⟨a7, g8, h⟩ := bind_ok h
      refine q_getI cx fl_X10_244 g8 dX10_count_88 ?_
      have h := Option.some.inj h
      exact k_iret cx hr hlk (by rw [← h]) rfl dX10_count_91
    | 4, ho =>
      cases ho
      have hv : p1 = 4 := Int32.toInt_inj.mp (by rw [hs]; rfl)
      have h := ite_f h (show ¬ p1 = 0 from fun q => by rw [hv] at q; revert q; decide)
      have h := ite_f h (show ¬ p1 = 1 from fun q => by rw [hv] at q; revert q; decide)
      have h := ite_f h (show ¬ p1 = 2 from fun q => by rw [hv] at q; revert q; decide)
      have h := ite_f h (show ¬ p1 = 3 from fun q => by rw [hv] at q; revert q; decide)
      have h := ite_t h hv
      refine ⟨by decide, ?_⟩
      refine k_aload_n cx 0 dX10_count_92 rfl rfl ?_
      refine q_getR cx fl_X10_33 hk0 dX10_count_93 ?_
      obtain ⟨a9, g10, h⟩ := bind_ok h
      obtain ⟨q11, g12, h⟩ := bind_ok h
      refine k_callV cx iv_X10_250 (ci := 1) rfl (by decide) (w_X1_runOvers (dn_some g10).2 g12) g10 (As := []) rfl rfl ⟨Nat.le_of_ble_eq_true rfl, Nat.le_of_ble_eq_true rfl⟩ (by simp [cat_rf, cat_i, cat_j]) dX10_count_96 ?_
      have h := Option.some.inj h
      exact k_iret cx hr hlk (by rw [← h]) rfl dX10_count_99
    | 5, ho =>
      cases ho
      have hv : p1 = 5 := Int32.toInt_inj.mp (by rw [hs]; rfl)
      have h := ite_f h (show ¬ p1 = 0 from fun q => by rw [hv] at q; revert q; decide)
      have h := ite_f h (show ¬ p1 = 1 from fun q => by rw [hv] at q; revert q; decide)
      have h := ite_f h (show ¬ p1 = 2 from fun q => by rw [hv] at q; revert q; decide)
      have h := ite_f h (show ¬ p1 = 3 from fun q => by rw [hv] at q; revert q; decide)
      have h := ite_f h (show ¬ p1 = 4 from fun q => by rw [hv] at q; revert q; decide)
      have h := ite_t h hv
      refine ⟨by decide, ?_⟩
      refine k_aload_n cx 0 dX10_count_100 rfl rfl ?_
      refine q_getR cx fl_X10_33 hk0 dX10_count_101 ?_
      obtain ⟨a13, g14, h⟩ := bind_ok h
      obtain ⟨q15, g16, h⟩ := bind_ok h
      refine k_callV cx iv_X10_253 (ci := 1) rfl (by decide) (w_X1_cuts (dn_some g14).2 g16) g14 (As := []) rfl rfl ⟨Nat.le_of_ble_eq_true rfl, Nat.le_of_ble_eq_true rfl⟩ (by simp [cat_rf, cat_i, cat_j]) dX10_count_104 ?_
      have h := Option.some.inj h
      exact k_iret cx hr hlk (by rw [← h]) rfl dX10_count_107
    | 6, ho =>
      cases ho
      have hv : p1 = 6 := Int32.toInt_inj.mp (by rw [hs]; rfl)
      have h := ite_f h (show ¬ p1 = 0 from fun q => by rw [hv] at q; revert q; decide)
      have h := ite_f h (show ¬ p1 = 1 from fun q => by rw [hv] at q; revert q; decide)
      have h := ite_f h (show ¬ p1 = 2 from fun q => by rw [hv] at q; revert q; decide)
      have h := ite_f h (show ¬ p1 = 3 from fun q => by rw [hv] at q; revert q; decide)
      have h := ite_f h (show ¬ p1 = 4 from fun q => by rw [hv] at q; revert q; decide)
      have h := ite_f h (show ¬ p1 = 5 from fun q => by rw [hv] at q; revert q; decide)
      have h := ite_t h hv
      refine ⟨by decide, ?_⟩
      refine k_aload_n cx 0 dX10_count_108 rfl rfl ?_
      refine q_getR cx fl_X10_33 hk0 dX10_count_109 ?_
      obtain ⟨a17, g18, h⟩ := bind_ok h
      obtain ⟨q19, g20, h⟩ := bind_ok h
      refine k_callV cx iv_X10_256 (ci := 1) rfl (by decide) (w_X1_markedPages (dn_some g18).2 g20) g18 (As := []) rfl rfl ⟨Nat.le_of_ble_eq_true rfl, Nat.le_of_ble_eq_true rfl⟩ (by simp [cat_rf, cat_i, cat_j]) dX10_count_112 ?_
      have h := Option.some.inj h
      exact k_iret cx hr hlk (by rw [← h]) rfl dX10_count_115
    | 7, ho =>
      cases ho
      have hv : p1 = 7 := Int32.toInt_inj.mp (by rw [hs]; rfl)
      have h := ite_f h (show ¬ p1 = 0 from fun q => by rw [hv] at q; revert q; decide)
      have h := ite_f h (show ¬ p1 = 1 from fun q => by rw [hv] at q; revert q; decide)
      have h := ite_f h (show ¬ p1 = 2 from fun q => by rw [hv] at q; revert q; decide)
      have h := ite_f h (show ¬ p1 = 3 from fun q => by rw [hv] at q; revert q; decide)
      have h := ite_f h (show ¬ p1 = 4 from fun q => by rw [hv] at q; revert q; decide)
      have h := ite_f h (show ¬ p1 = 5 from fun q => by rw [hv] at q; revert q; decide)
      have h := ite_f h (show ¬ p1 = 6 from fun q => by rw [hv] at q; revert q; decide)
      have h := ite_t h hv
      refine ⟨by decide, ?_⟩
      refine k_aload_n cx 0 dX10_count_116 rfl rfl ?_
      refine q_getR cx fl_X10_33 hk0 dX10_count_117 ?_
      obtain ⟨a21, g22, h⟩ := bind_ok h
      obtain ⟨q23, g24, h⟩ := bind_ok h
      refine k_callV cx iv_X10_259 (ci := 1) rfl (by decide) (w_X1_lastNumber (dn_some g22).2 g24) g22 (As := []) rfl rfl ⟨Nat.le_of_ble_eq_true rfl, Nat.le_of_ble_eq_true rfl⟩ (by simp [cat_rf, cat_i, cat_j]) dX10_count_120 ?_
      have h := Option.some.inj h
      exact k_iret cx hr hlk (by rw [← h]) rfl dX10_count_123
    | 8, ho =>
      cases ho
      have hv : p1 = 8 := Int32.toInt_inj.mp (by rw [hs]; rfl)
      have h := ite_f h (show ¬ p1 = 0 from fun q => by rw [hv] at q; revert q; decide)
      have h := ite_f h (show ¬ p1 = 1 from fun q => by rw [hv] at q; revert q; decide)
      have h := ite_f h (show ¬ p1 = 2 from fun q => by rw [hv] at q; revert q; decide)
      have h := ite_f h (show ¬ p1 = 3 from fun q => by rw [hv] at q; revert q; decide)
      have h := ite_f h (show ¬ p1 = 4 from fun q => by rw [hv] at q; revert q; decide)
      have h := ite_f h (show ¬ p1 = 5 from fun q => by rw [hv] at q; revert q; decide)
      have h := ite_f h (show ¬ p1 = 6 from fun q => by rw [hv] at q; revert q; decide)
      have h := ite_f h (show ¬ p1 = 7 from fun q => by rw [hv] at q; revert q; decide)
      have h := ite_t h hv
      refine ⟨by decide, ?_⟩
      refine k_aload_n cx 0 dX10_count_124 rfl rfl ?_
      refine q_getR cx fl_X10_33 hk0 dX10_count_125 ?_
      refine k_iconst cx 0 dX10_count_128 (by decide) ?_
      refine k_aload_n cx 0 dX10_count_129 rfl rfl ?_
      refine q_getR cx fl_X10_33 hk0 dX10_count_130 ?_
      obtain ⟨a25, g26, h⟩ := bind_ok h
      refine q_getI cx fl_X10_247 g26 dX10_count_133 ?_
      obtain ⟨q27, g28, h⟩ := bind_ok h
      refine k_callV cx iv_X10_262 (ci := 1) rfl (by decide) (w_X1_greatestWidth (dn_some g26).2 g28) g26 (As := [.int 0, .int (hpI σ 36 a25)]) rfl rfl ⟨Nat.le_of_ble_eq_true rfl, Nat.le_of_ble_eq_true rfl⟩ (by simp [cat_rf, cat_i, cat_j]) dX10_count_136 ?_
      have h := Option.some.inj h
      exact k_iret cx hr hlk (by rw [← h]) rfl dX10_count_139
    | 9, ho =>
      cases ho
      have hv : p1 = 9 := Int32.toInt_inj.mp (by rw [hs]; rfl)
      have h := ite_f h (show ¬ p1 = 0 from fun q => by rw [hv] at q; revert q; decide)
      have h := ite_f h (show ¬ p1 = 1 from fun q => by rw [hv] at q; revert q; decide)
      have h := ite_f h (show ¬ p1 = 2 from fun q => by rw [hv] at q; revert q; decide)
      have h := ite_f h (show ¬ p1 = 3 from fun q => by rw [hv] at q; revert q; decide)
      have h := ite_f h (show ¬ p1 = 4 from fun q => by rw [hv] at q; revert q; decide)
      have h := ite_f h (show ¬ p1 = 5 from fun q => by rw [hv] at q; revert q; decide)
      have h := ite_f h (show ¬ p1 = 6 from fun q => by rw [hv] at q; revert q; decide)
      have h := ite_f h (show ¬ p1 = 7 from fun q => by rw [hv] at q; revert q; decide)
      have h := ite_f h (show ¬ p1 = 8 from fun q => by rw [hv] at q; revert q; decide)
      have h := ite_t h hv
      refine ⟨by decide, ?_⟩
      refine k_aload_n cx 0 dX10_count_140 rfl rfl ?_
      refine q_getR cx fl_X10_26 hk0 dX10_count_141 ?_
      obtain ⟨a29, g30, h⟩ := bind_ok h
      refine q_getI cx fl_X10_162 g30 dX10_count_144 ?_
      have h := Option.some.inj h
      exact k_iret cx hr hlk (by rw [← h]) rfl dX10_count_147
    | 10, ho =>
      cases ho
      have hv : p1 = 10 := Int32.toInt_inj.mp (by rw [hs]; rfl)
      have h := ite_f h (show ¬ p1 = 0 from fun q => by rw [hv] at q; revert q; decide)
      have h := ite_f h (show ¬ p1 = 1 from fun q => by rw [hv] at q; revert q; decide)
      have h := ite_f h (show ¬ p1 = 2 from fun q => by rw [hv] at q; revert q; decide)
      have h := ite_f h (show ¬ p1 = 3 from fun q => by rw [hv] at q; revert q; decide)
      have h := ite_f h (show ¬ p1 = 4 from fun q => by rw [hv] at q; revert q; decide)
      have h := ite_f h (show ¬ p1 = 5 from fun q => by rw [hv] at q; revert q; decide)
      have h := ite_f h (show ¬ p1 = 6 from fun q => by rw [hv] at q; revert q; decide)
      have h := ite_f h (show ¬ p1 = 7 from fun q => by rw [hv] at q; revert q; decide)
      have h := ite_f h (show ¬ p1 = 8 from fun q => by rw [hv] at q; revert q; decide)
      have h := ite_f h (show ¬ p1 = 9 from fun q => by rw [hv] at q; revert q; decide)
      have h := ite_t h hv
      refine ⟨by decide, ?_⟩
      refine k_aload_n cx 0 dX10_count_148 rfl rfl ?_
      refine q_getR cx fl_X10_12 hk0 dX10_count_149 ?_
      obtain ⟨a31, g32, h⟩ := bind_ok h
      refine q_getI cx fl_X10_40 g32 dX10_count_152 ?_
      have h := Option.some.inj h
      exact k_iret cx hr hlk (by rw [← h]) rfl dX10_count_155
    | k + 11, ho => exact absurd ho (by simp)
set_option maxRecDepth 100000 in
set_option maxHeartbeats 4000000 in
theorem w_X10_mixed {Γ : GE} {σ : St} {p1 : Int64} {p2 : Int32} {ρ : Int64} (h : f_X10_mixed σ p1 p2 = some ρ) : Ct Γ yX10_mixed cX10_mixed 3 (some .long) 0 0 [.long p1, .int p2] σ (some (.long ρ)) σ := by
  refine ct_intro (own := RX10) (L0 := [(0, .long p1), (2, .int p2)]) (by decide +kernel) rfl (by simp [lg_sl, cat_rf, cat_i, cat_j]) (by simp [lv_args, cat_rf, cat_i, cat_j]) ?_
  intro p l e s m args below meth c hr hlk hin cx
  unfold f_X10_mixed at h
  refine k_ldc2 cx 31 lw_X10_303 dX10_mixed_0 ?_
  refine k_lload_n cx 0 dX10_mixed_3 rfl rfl ?_
  refine k_lmul cx dX10_mixed_4 ?_
  refine k_iload_n cx 1 dX10_mixed_5 rfl rfl ?_
  refine k_i2l cx dX10_mixed_6 ?_
  refine k_ladd cx dX10_mixed_7 ?_
  have h := Option.some.inj h
  exact k_lret cx hr hlk (by rw [← h]) rfl dX10_mixed_8
set_option maxRecDepth 100000 in
set_option maxHeartbeats 4000000 in
theorem w_X10_withLines {Γ : GE} {σ : St} {t : Nat} {p1 : Int64} {ρ : Int64} (hk : hpK σ t = 10) (h : f_X10_withLines σ t p1 = some ρ) : Ct Γ yX10_withLines cX10_withLines 5 (some .long) 2 45 [va_rf (some t), .long p1] σ (some (.long ρ)) σ := by
  refine ct_intro (own := RX10) (L0 := [(0, va_rf (some t)), (1, .long p1)]) (by decide +kernel) rfl (by simp [lg_sl, cat_rf, cat_i, cat_j]) (by simp [lv_args, cat_rf, cat_i, cat_j]) ?_
  intro p l e s m args below meth c hr hlk hin cx
  have hk0 := dn_eq hk
  unfold f_X10_withLines at h
  refine k_iconst cx 0 dX10_withLines_0 (by decide) ?_
  refine k_istore_n cx (i := 3) [(3, .int 0), (0, va_rf (some t)), (1, .long p1)] dX10_withLines_1 rfl (by decide) (by simp [cat_rf, cat_i, cat_j]) ?_
  obtain ⟨x2, hxx2, h⟩ := bind_ok h
  have Kx2 : Og p l e s m args below meth c Γ 5 2 45 σ (some (.long ρ)) σ 47 [(1, .long x2)] [] σ := by
    refine k_lload_n cx 0 dX10_withLines_47 rfl rfl ?_
    have h := Option.some.inj h
    exact k_lret cx hr hlk (by rw [← h]) rfl dX10_withLines_48
  have KLx2 : ∀ (n : Nat) (v1 : Int64) (v3 : Int32), LX10_withLines_2 n σ t v1 v3 = some x2 → Og p l e s m args below meth c Γ 5 2 45 σ (some (.long ρ)) σ 2 [(0, va_rf (some t)), (1, .long v1), (3, .int v3)] [] σ := by
    intro n
    induction n with
    | zero => intro _ _ h; cases (show (none : Option _) = some x2 from h)
    | succ n ihx2 =>
      intro v1 v3 h
      rw [LX10_withLines_2] at h
      refine k_iload_n cx 2 dX10_withLines_2 rfl rfl ?_
      refine k_aload_n cx 0 dX10_withLines_3 rfl rfl ?_
      refine q_getR cx fl_X10_19 hk0 dX10_withLines_4 ?_
      obtain ⟨a3, g4, h⟩ := bind_ok h
      refine q_getI cx fl_X10_55 g4 dX10_withLines_7 ?_
      refine k_icmp_ge cx 47 dX10_withLines_10 (by decide) (fun c5 => ?_) (fun c5 => ?_)
      · have h := ite_t h c5
        refine k_sub [1] rfl ?_
        obtain rfl := Option.some.inj h
        exact Kx2
      · have h := ite_f h c5
        refine k_iconst cx 0 dX10_withLines_13 (by decide) ?_
        refine k_istore cx [(4, .int 0), (0, va_rf (some t)), (1, .long v1), (3, .int v3)] dX10_withLines_14 (by decide) (by simp [cat_rf, cat_i, cat_j]) ?_
        obtain ⟨x7, hxx7, h⟩ := bind_ok h
        have Kx7 : Og p l e s m args below meth c Γ 5 2 45 σ (some (.long ρ)) σ 41 [(0, va_rf (some t)), (1, .long x7), (3, .int v3)] [] σ := by
          refine k_iinc cx 2 [(3, .int (v3 + 1)), (0, va_rf (some t)), (1, .long x7)] (v3 + 1) dX10_withLines_41 rfl rfl (by decide) (by simp [cat_rf, cat_i, cat_j]) ?_
          refine k_goto cx 2 dX10_withLines_44 (by decide) ?_
          refine k_sub [1, 2, 0] rfl ?_
          exact ihx2 _ _ h
        have KLx7 : ∀ (n : Nat) (v1 : Int64) (v4 : Int32), LX10_withLines_16 n σ t v3 v1 v4 = some x7 → Og p l e s m args below meth c Γ 5 2 45 σ (some (.long ρ)) σ 16 [(0, va_rf (some t)), (1, .long v1), (3, .int v3), (4, .int v4)] [] σ := by
          intro n
          induction n with
          | zero => intro _ _ h; cases (show (none : Option _) = some x7 from h)
          | succ n ihx7 =>
            intro v1 v4 h
            rw [LX10_withLines_16] at h
            refine k_iload cx 3 dX10_withLines_16 rfl ?_
            refine k_bipush cx 10 dX10_withLines_18 (by decide) ?_
            refine k_icmp_ge cx 41 dX10_withLines_20 (by decide) (fun c8 => ?_) (fun c8 => ?_)
            · have h := ite_t h c8
              refine k_sub [0, 1, 2] rfl ?_
              obtain rfl := Option.some.inj h
              exact Kx7
            · have h := ite_f h c8
              refine k_lload_n cx 1 dX10_withLines_23 rfl rfl ?_
              refine k_aload_n cx 0 dX10_withLines_24 rfl rfl ?_
              refine k_iload_n cx 2 dX10_withLines_25 rfl rfl ?_
              refine k_iload cx 3 dX10_withLines_26 rfl ?_
              obtain ⟨q9, g10, h⟩ := bind_ok h
              refine k_callV cx iv_X10_296 (ci := 10) rfl (by decide) (w_X10_line (dn_some hk0).2 g10) hk0 (As := [.int v3, .int v4]) rfl rfl ⟨Nat.le_of_ble_eq_true rfl, Nat.le_of_ble_eq_true rfl⟩ (by simp [cat_rf, cat_i, cat_j]) dX10_withLines_28 ?_
              obtain ⟨q11, g12, h⟩ := bind_ok h
              refine k_callS cx iv_X10_272 (w_X10_mixed g12) (As := [.long v1, .int q9]) rfl rfl ⟨Nat.le_of_ble_eq_true rfl, Nat.le_of_ble_eq_true rfl⟩ (by simp [cat_rf, cat_i, cat_j]) dX10_withLines_31 ?_
              refine k_lstore_n cx (i := 1) [(1, .long q11), (0, va_rf (some t)), (3, .int v3), (4, .int v4)] dX10_withLines_34 rfl (by decide) (by simp [cat_rf, cat_i, cat_j]) ?_
              refine k_iinc cx 3 [(4, .int (v4 + 1)), (1, .long q11), (0, va_rf (some t)), (3, .int v3)] (v4 + 1) dX10_withLines_35 rfl rfl (by decide) (by simp [cat_rf, cat_i, cat_j]) ?_
              refine k_goto cx 16 dX10_withLines_38 (by decide) ?_
              refine k_sub [2, 1, 3, 0] rfl ?_
              exact ihx7 _ _ h
        refine k_sub [1, 2, 3, 0] rfl ?_
        exact KLx7 FU _ _ hxx7
  refine k_sub [1, 2, 0] rfl ?_
  exact KLx2 FU _ _ hxx2
set_option maxRecDepth 100000 in
set_option maxHeartbeats 4000000 in
theorem w_X10_withRows {Γ : GE} {σ : St} {t : Nat} {p1 : Int64} {ρ : Int64} (hk : hpK σ t = 10) (h : f_X10_withRows σ t p1 = some ρ) : Ct Γ yX10_withRows cX10_withRows 5 (some .long) 2 44 [va_rf (some t), .long p1] σ (some (.long ρ)) σ := by
  refine ct_intro (own := RX10) (L0 := [(0, va_rf (some t)), (1, .long p1)]) (by decide +kernel) rfl (by simp [lg_sl, cat_rf, cat_i, cat_j]) (by simp [lv_args, cat_rf, cat_i, cat_j]) ?_
  intro p l e s m args below meth c hr hlk hin cx
  have hk0 := dn_eq hk
  unfold f_X10_withRows at h
  refine k_iconst cx 0 dX10_withRows_0 (by decide) ?_
  refine k_istore_n cx (i := 3) [(3, .int 0), (0, va_rf (some t)), (1, .long p1)] dX10_withRows_1 rfl (by decide) (by simp [cat_rf, cat_i, cat_j]) ?_
  obtain ⟨x2, hxx2, h⟩ := bind_ok h
  have Kx2 : Og p l e s m args below meth c Γ 5 2 44 σ (some (.long ρ)) σ 47 [(1, .long x2)] [] σ := by
    refine k_lload_n cx 0 dX10_withRows_47 rfl rfl ?_
    have h := Option.some.inj h
    exact k_lret cx hr hlk (by rw [← h]) rfl dX10_withRows_48
  have KLx2 : ∀ (n : Nat) (v1 : Int64) (v3 : Int32), LX10_withRows_2 n σ t v1 v3 = some x2 → Og p l e s m args below meth c Γ 5 2 44 σ (some (.long ρ)) σ 2 [(0, va_rf (some t)), (1, .long v1), (3, .int v3)] [] σ := by
    intro n
    induction n with
    | zero => intro _ _ h; cases (show (none : Option _) = some x2 from h)
    | succ n ihx2 =>
      intro v1 v3 h
      rw [LX10_withRows_2] at h
      refine k_iload_n cx 2 dX10_withRows_2 rfl rfl ?_
      refine k_aload_n cx 0 dX10_withRows_3 rfl rfl ?_
      refine q_getR cx fl_X10_33 hk0 dX10_withRows_4 ?_
      obtain ⟨a3, g4, h⟩ := bind_ok h
      refine q_getI cx fl_X10_247 g4 dX10_withRows_7 ?_
      refine k_icmp_ge cx 47 dX10_withRows_10 (by decide) (fun c5 => ?_) (fun c5 => ?_)
      · have h := ite_t h c5
        refine k_sub [1] rfl ?_
        obtain rfl := Option.some.inj h
        exact Kx2
      · have h := ite_f h c5
        refine k_iconst cx 0 dX10_withRows_13 (by decide) ?_
        refine k_istore cx [(4, .int 0), (0, va_rf (some t)), (1, .long v1), (3, .int v3)] dX10_withRows_14 (by decide) (by simp [cat_rf, cat_i, cat_j]) ?_
        obtain ⟨x7, hxx7, h⟩ := bind_ok h
        have Kx7 : Og p l e s m args below meth c Γ 5 2 44 σ (some (.long ρ)) σ 41 [(0, va_rf (some t)), (1, .long x7), (3, .int v3)] [] σ := by
          refine k_iinc cx 2 [(3, .int (v3 + 1)), (0, va_rf (some t)), (1, .long x7)] (v3 + 1) dX10_withRows_41 rfl rfl (by decide) (by simp [cat_rf, cat_i, cat_j]) ?_
          refine k_goto cx 2 dX10_withRows_44 (by decide) ?_
          refine k_sub [1, 2, 0] rfl ?_
          exact ihx2 _ _ h
        have KLx7 : ∀ (n : Nat) (v1 : Int64) (v4 : Int32), LX10_withRows_16 n σ t v3 v1 v4 = some x7 → Og p l e s m args below meth c Γ 5 2 44 σ (some (.long ρ)) σ 16 [(0, va_rf (some t)), (1, .long v1), (3, .int v3), (4, .int v4)] [] σ := by
          intro n
          induction n with
          | zero => intro _ _ h; cases (show (none : Option _) = some x7 from h)
          | succ n ihx7 =>
            intro v1 v4 h
            rw [LX10_withRows_16] at h
            refine k_iload cx 3 dX10_withRows_16 rfl ?_
            refine k_bipush cx 9 dX10_withRows_18 (by decide) ?_
            refine k_icmp_ge cx 41 dX10_withRows_20 (by decide) (fun c8 => ?_) (fun c8 => ?_)
            · have h := ite_t h c8
              refine k_sub [0, 1, 2] rfl ?_
              obtain rfl := Option.some.inj h
              exact Kx7
            · have h := ite_f h c8
              refine k_lload_n cx 1 dX10_withRows_23 rfl rfl ?_
              refine k_aload_n cx 0 dX10_withRows_24 rfl rfl ?_
              refine k_iload_n cx 2 dX10_withRows_25 rfl rfl ?_
              refine k_iload cx 3 dX10_withRows_26 rfl ?_
              obtain ⟨q9, g10, h⟩ := bind_ok h
              refine k_callV cx iv_X10_298 (ci := 10) rfl (by decide) (w_X10_row (dn_some hk0).2 g10) hk0 (As := [.int v3, .int v4]) rfl rfl ⟨Nat.le_of_ble_eq_true rfl, Nat.le_of_ble_eq_true rfl⟩ (by simp [cat_rf, cat_i, cat_j]) dX10_withRows_28 ?_
              obtain ⟨q11, g12, h⟩ := bind_ok h
              refine k_callS cx iv_X10_272 (w_X10_mixed g12) (As := [.long v1, .int q9]) rfl rfl ⟨Nat.le_of_ble_eq_true rfl, Nat.le_of_ble_eq_true rfl⟩ (by simp [cat_rf, cat_i, cat_j]) dX10_withRows_31 ?_
              refine k_lstore_n cx (i := 1) [(1, .long q11), (0, va_rf (some t)), (3, .int v3), (4, .int v4)] dX10_withRows_34 rfl (by decide) (by simp [cat_rf, cat_i, cat_j]) ?_
              refine k_iinc cx 3 [(4, .int (v4 + 1)), (1, .long q11), (0, va_rf (some t)), (3, .int v3)] (v4 + 1) dX10_withRows_35 rfl rfl (by decide) (by simp [cat_rf, cat_i, cat_j]) ?_
              refine k_goto cx 16 dX10_withRows_38 (by decide) ?_
              refine k_sub [2, 1, 3, 0] rfl ?_
              exact ihx7 _ _ h
        refine k_sub [1, 2, 3, 0] rfl ?_
        exact KLx7 FU _ _ hxx7
  refine k_sub [1, 2, 0] rfl ?_
  exact KLx2 FU _ _ hxx2
set_option maxRecDepth 100000 in
set_option maxHeartbeats 4000000 in
theorem w_X10_withPages {Γ : GE} {σ : St} {t : Nat} {p1 : Int64} {ρ : Int64} (hk : hpK σ t = 10) (h : f_X10_withPages σ t p1 = some ρ) : Ct Γ yX10_withPages cX10_withPages 5 (some .long) 2 44 [va_rf (some t), .long p1] σ (some (.long ρ)) σ := by
  refine ct_intro (own := RX10) (L0 := [(0, va_rf (some t)), (1, .long p1)]) (by decide +kernel) rfl (by simp [lg_sl, cat_rf, cat_i, cat_j]) (by simp [lv_args, cat_rf, cat_i, cat_j]) ?_
  intro p l e s m args below meth c hr hlk hin cx
  have hk0 := dn_eq hk
  unfold f_X10_withPages at h
  refine k_iconst cx 0 dX10_withPages_0 (by decide) ?_
  refine k_istore_n cx (i := 3) [(3, .int 0), (0, va_rf (some t)), (1, .long p1)] dX10_withPages_1 rfl (by decide) (by simp [cat_rf, cat_i, cat_j]) ?_
  obtain ⟨x2, hxx2, h⟩ := bind_ok h
  have Kx2 : Og p l e s m args below meth c Γ 5 2 44 σ (some (.long ρ)) σ 46 [(1, .long x2)] [] σ := by
    refine k_lload_n cx 0 dX10_withPages_46 rfl rfl ?_
    have h := Option.some.inj h
    exact k_lret cx hr hlk (by rw [← h]) rfl dX10_withPages_47
  have KLx2 : ∀ (n : Nat) (v1 : Int64) (v3 : Int32), LX10_withPages_2 n σ t v1 v3 = some x2 → Og p l e s m args below meth c Γ 5 2 44 σ (some (.long ρ)) σ 2 [(0, va_rf (some t)), (1, .long v1), (3, .int v3)] [] σ := by
    intro n
    induction n with
    | zero => intro _ _ h; cases (show (none : Option _) = some x2 from h)
    | succ n ihx2 =>
      intro v1 v3 h
      rw [LX10_withPages_2] at h
      refine k_iload_n cx 2 dX10_withPages_2 rfl rfl ?_
      refine k_aload_n cx 0 dX10_withPages_3 rfl rfl ?_
      refine q_getR cx fl_X10_33 hk0 dX10_withPages_4 ?_
      obtain ⟨a3, g4, h⟩ := bind_ok h
      refine q_getI cx fl_X10_244 g4 dX10_withPages_7 ?_
      refine k_icmp_ge cx 46 dX10_withPages_10 (by decide) (fun c5 => ?_) (fun c5 => ?_)
      · have h := ite_t h c5
        refine k_sub [1] rfl ?_
        obtain rfl := Option.some.inj h
        exact Kx2
      · have h := ite_f h c5
        refine k_iconst cx 0 dX10_withPages_13 (by decide) ?_
        refine k_istore cx [(4, .int 0), (0, va_rf (some t)), (1, .long v1), (3, .int v3)] dX10_withPages_14 (by decide) (by simp [cat_rf, cat_i, cat_j]) ?_
        obtain ⟨x7, hxx7, h⟩ := bind_ok h
        have Kx7 : Og p l e s m args below meth c Γ 5 2 44 σ (some (.long ρ)) σ 40 [(0, va_rf (some t)), (1, .long x7), (3, .int v3)] [] σ := by
          refine k_iinc cx 2 [(3, .int (v3 + 1)), (0, va_rf (some t)), (1, .long x7)] (v3 + 1) dX10_withPages_40 rfl rfl (by decide) (by simp [cat_rf, cat_i, cat_j]) ?_
          refine k_goto cx 2 dX10_withPages_43 (by decide) ?_
          refine k_sub [1, 2, 0] rfl ?_
          exact ihx2 _ _ h
        have KLx7 : ∀ (n : Nat) (v1 : Int64) (v4 : Int32), LX10_withPages_16 n σ t v3 v1 v4 = some x7 → Og p l e s m args below meth c Γ 5 2 44 σ (some (.long ρ)) σ 16 [(0, va_rf (some t)), (1, .long v1), (3, .int v3), (4, .int v4)] [] σ := by
          intro n
          induction n with
          | zero => intro _ _ h; cases (show (none : Option _) = some x7 from h)
          | succ n ihx7 =>
            intro v1 v4 h
            rw [LX10_withPages_16] at h
            refine k_iload cx 3 dX10_withPages_16 rfl ?_
            refine k_iconst cx 5 dX10_withPages_18 (by decide) ?_
            refine k_icmp_ge cx 40 dX10_withPages_19 (by decide) (fun c8 => ?_) (fun c8 => ?_)
            · have h := ite_t h c8
              refine k_sub [0, 1, 2] rfl ?_
              obtain rfl := Option.some.inj h
              exact Kx7
            · have h := ite_f h c8
              refine k_lload_n cx 1 dX10_withPages_22 rfl rfl ?_
              refine k_aload_n cx 0 dX10_withPages_23 rfl rfl ?_
              refine k_iload_n cx 2 dX10_withPages_24 rfl rfl ?_
              refine k_iload cx 3 dX10_withPages_25 rfl ?_
              obtain ⟨q9, g10, h⟩ := bind_ok h
              refine k_callV cx iv_X10_301 (ci := 10) rfl (by decide) (w_X10_page (dn_some hk0).2 g10) hk0 (As := [.int v3, .int v4]) rfl rfl ⟨Nat.le_of_ble_eq_true rfl, Nat.le_of_ble_eq_true rfl⟩ (by simp [cat_rf, cat_i, cat_j]) dX10_withPages_27 ?_
              obtain ⟨q11, g12, h⟩ := bind_ok h
              refine k_callS cx iv_X10_272 (w_X10_mixed g12) (As := [.long v1, .int q9]) rfl rfl ⟨Nat.le_of_ble_eq_true rfl, Nat.le_of_ble_eq_true rfl⟩ (by simp [cat_rf, cat_i, cat_j]) dX10_withPages_30 ?_
              refine k_lstore_n cx (i := 1) [(1, .long q11), (0, va_rf (some t)), (3, .int v3), (4, .int v4)] dX10_withPages_33 rfl (by decide) (by simp [cat_rf, cat_i, cat_j]) ?_
              refine k_iinc cx 3 [(4, .int (v4 + 1)), (1, .long q11), (0, va_rf (some t)), (3, .int v3)] (v4 + 1) dX10_withPages_34 rfl rfl (by decide) (by simp [cat_rf, cat_i, cat_j]) ?_
              refine k_goto cx 16 dX10_withPages_37 (by decide) ?_
              refine k_sub [2, 1, 3, 0] rfl ?_
              exact ihx7 _ _ h
        refine k_sub [1, 2, 3, 0] rfl ?_
        exact KLx7 FU _ _ hxx7
  refine k_sub [1, 2, 0] rfl ?_
  exact KLx2 FU _ _ hxx2
set_option maxRecDepth 100000 in
set_option maxHeartbeats 4000000 in
theorem w_X10_withPlaces {Γ : GE} {σ : St} {t : Nat} {p1 : Int64} {ρ : Int64} (hk : hpK σ t = 10) (h : f_X10_withPlaces σ t p1 = some ρ) : Ct Γ yX10_withPlaces cX10_withPlaces 7 (some .long) 2 44 [va_rf (some t), .long p1] σ (some (.long ρ)) σ := by
  refine ct_intro (own := RX10) (L0 := [(0, va_rf (some t)), (1, .long p1)]) (by decide +kernel) rfl (by simp [lg_sl, cat_rf, cat_i, cat_j]) (by simp [lv_args, cat_rf, cat_i, cat_j]) ?_
  intro p l e s m args below meth c hr hlk hin cx
  have hk0 := dn_eq hk
  unfold f_X10_withPlaces at h
  refine k_aload_n cx 0 dX10_withPlaces_0 rfl rfl ?_
  refine q_getR cx fl_X10_19 hk0 dX10_withPlaces_1 ?_
  refine k_iconst cx 0 dX10_withPlaces_4 (by decide) ?_
  obtain ⟨a1, g2, h⟩ := bind_ok h
  obtain ⟨q3, g4, h⟩ := bind_ok h
  refine k_callV cx iv_X10_155 (ci := 5) rfl (by decide) (w_X5_setting (dn_some g2).2 g4) g2 (As := [.int 0]) rfl rfl ⟨Nat.le_of_ble_eq_true rfl, Nat.le_of_ble_eq_true rfl⟩ (by simp [cat_rf, cat_i, cat_j]) dX10_withPlaces_5 ?_
  refine k_istore_n cx (i := 3) [(3, .int q3), (0, va_rf (some t)), (1, .long p1)] dX10_withPlaces_8 rfl (by decide) (by simp [cat_rf, cat_i, cat_j]) ?_
  refine k_iconst cx 0 dX10_withPlaces_9 (by decide) ?_
  refine k_istore cx [(4, .int 0), (3, .int q3), (0, va_rf (some t)), (1, .long p1)] dX10_withPlaces_10 (by decide) (by simp [cat_rf, cat_i, cat_j]) ?_
  obtain ⟨x6, hxx6, h⟩ := bind_ok h
  have Kx6 : Og p l e s m args below meth c Γ 7 2 44 σ (some (.long ρ)) σ 69 [(1, .long x6)] [] σ := by
    refine k_lload_n cx 0 dX10_withPlaces_69 rfl rfl ?_
    have h := Option.some.inj h
    exact k_lret cx hr hlk (by rw [← h]) rfl dX10_withPlaces_70
  have KLx6 : ∀ (n : Nat) (v1 : Int64) (v4 : Int32), LX10_withPlaces_12 n σ t q3 v1 v4 = some x6 → Og p l e s m args below meth c Γ 7 2 44 σ (some (.long ρ)) σ 12 [(0, va_rf (some t)), (1, .long v1), (3, .int q3), (4, .int v4)] [] σ := by
    intro n
    induction n with
    | zero => intro _ _ h; cases (show (none : Option _) = some x6 from h)
    | succ n ihx6 =>
      intro v1 v4 h
      rw [LX10_withPlaces_12] at h
      refine k_iload cx 3 dX10_withPlaces_12 rfl ?_
      refine k_aload_n cx 0 dX10_withPlaces_14 rfl rfl ?_
      refine q_getR cx fl_X10_33 hk0 dX10_withPlaces_15 ?_
      obtain ⟨a7, g8, h⟩ := bind_ok h
      refine q_getI cx fl_X10_247 g8 dX10_withPlaces_18 ?_
      refine k_icmp_ge cx 69 dX10_withPlaces_21 (by decide) (fun c9 => ?_) (fun c9 => ?_)
      · have h := ite_t h c9
        refine k_sub [1] rfl ?_
        obtain rfl := Option.some.inj h
        exact Kx6
      · have h := ite_f h c9
        refine k_aload_n cx 0 dX10_withPlaces_24 rfl rfl ?_
        refine q_getR cx fl_X10_33 hk0 dX10_withPlaces_25 ?_
        refine k_iload cx 3 dX10_withPlaces_28 rfl ?_
        obtain ⟨q10, g11, h⟩ := bind_ok h
        refine k_callV cx iv_X10_166 (ci := 1) rfl (by decide) (w_X1_rowAt (dn_some g8).2 g11) g8 (As := [.int v4]) rfl rfl ⟨Nat.le_of_ble_eq_true rfl, Nat.le_of_ble_eq_true rfl⟩ (by simp [cat_rf, cat_i, cat_j]) dX10_withPlaces_30 ?_
        refine k_astore cx [(5, va_rf q10), (0, va_rf (some t)), (1, .long v1), (3, .int q3), (4, .int v4)] dX10_withPlaces_33 (by decide) (by simp [cat_rf, cat_i, cat_j]) ?_
        refine k_iconst cx 0 dX10_withPlaces_35 (by decide) ?_
        refine k_istore cx [(6, .int 0), (5, va_rf q10), (0, va_rf (some t)), (1, .long v1), (3, .int q3), (4, .int v4)] dX10_withPlaces_36 (by decide) (by simp [cat_rf, cat_i, cat_j]) ?_
        obtain ⟨x13, hxx13, h⟩ := bind_ok h
        have Kx13 : Og p l e s m args below meth c Γ 7 2 44 σ (some (.long ρ)) σ 63 [(0, va_rf (some t)), (1, .long x13), (3, .int q3), (4, .int v4)] [] σ := by
          refine k_iinc cx 3 [(4, .int (v4 + 1)), (0, va_rf (some t)), (1, .long x13), (3, .int q3)] (v4 + 1) dX10_withPlaces_63 rfl rfl (by decide) (by simp [cat_rf, cat_i, cat_j]) ?_
          refine k_goto cx 12 dX10_withPlaces_66 (by decide) ?_
          refine k_sub [1, 2, 3, 0] rfl ?_
          exact ihx6 _ _ h
        have KLx13 : ∀ (n : Nat) (v1 : Int64) (v6 : Int32), LX10_withPlaces_38 n σ t q3 v4 q10 v1 v6 = some x13 → Og p l e s m args below meth c Γ 7 2 44 σ (some (.long ρ)) σ 38 [(0, va_rf (some t)), (1, .long v1), (3, .int q3), (4, .int v4), (5, va_rf q10), (6, .int v6)] [] σ := by
          intro n
          induction n with
          | zero => intro _ _ h; cases (show (none : Option _) = some x13 from h)
          | succ n ihx13 =>
            intro v1 v6 h
            rw [LX10_withPlaces_38] at h
            refine k_iload cx 5 dX10_withPlaces_38 rfl ?_
            refine k_iload_n cx 2 dX10_withPlaces_40 rfl rfl ?_
            refine k_icmp_ge cx 63 dX10_withPlaces_41 (by decide) (fun c14 => ?_) (fun c14 => ?_)
            · have h := ite_t h c14
              refine k_sub [0, 1, 2, 3] rfl ?_
              obtain rfl := Option.some.inj h
              exact Kx13
            · have h := ite_f h c14
              refine k_lload_n cx 1 dX10_withPlaces_44 rfl rfl ?_
              refine k_aload_n cx 0 dX10_withPlaces_45 rfl rfl ?_
              refine k_aload cx 4 dX10_withPlaces_46 rfl ?_
              refine k_iload cx 5 dX10_withPlaces_48 rfl ?_
              obtain ⟨q15, g16, h⟩ := bind_ok h
              refine k_callV cx iv_X10_205 (ci := 10) rfl (by decide) (w_X10_byteInRow (dn_some hk0).2 g16) hk0 (As := [va_rf q10, .int v6]) rfl rfl ⟨Nat.le_of_ble_eq_true rfl, Nat.le_of_ble_eq_true rfl⟩ (by simp [cat_rf, cat_i, cat_j]) dX10_withPlaces_50 ?_
              obtain ⟨q17, g18, h⟩ := bind_ok h
              refine k_callS cx iv_X10_272 (w_X10_mixed g18) (As := [.long v1, .int q15]) rfl rfl ⟨Nat.le_of_ble_eq_true rfl, Nat.le_of_ble_eq_true rfl⟩ (by simp [cat_rf, cat_i, cat_j]) dX10_withPlaces_53 ?_
              refine k_lstore_n cx (i := 1) [(1, .long q17), (0, va_rf (some t)), (3, .int q3), (4, .int v4), (5, va_rf q10), (6, .int v6)] dX10_withPlaces_56 rfl (by decide) (by simp [cat_rf, cat_i, cat_j]) ?_
              refine k_iinc cx 5 [(6, .int (v6 + 1)), (1, .long q17), (0, va_rf (some t)), (3, .int q3), (4, .int v4), (5, va_rf q10)] (v6 + 1) dX10_withPlaces_57 rfl rfl (by decide) (by simp [cat_rf, cat_i, cat_j]) ?_
              refine k_goto cx 38 dX10_withPlaces_60 (by decide) ?_
              refine k_sub [2, 1, 3, 4, 5, 0] rfl ?_
              exact ihx13 _ _ h
        refine k_sub [2, 3, 4, 5, 1, 0] rfl ?_
        exact KLx13 FU _ _ hxx13
  refine k_sub [2, 3, 1, 0] rfl ?_
  exact KLx6 FU _ _ hxx6
set_option maxRecDepth 100000 in
set_option maxHeartbeats 4000000 in
theorem w_X10_digest {Γ : GE} {σ : St} {t : Nat} {ρ : Int64} (hk : hpK σ t = 10) (h : f_X10_digest σ t = some ρ) : Ct Γ yX10_digest cX10_digest 4 (some .long) 5 118 [va_rf (some t)] σ (some (.long ρ)) σ := by
  refine ct_intro (own := RX10) (L0 := [(0, va_rf (some t))]) (by decide +kernel) rfl (by simp [lg_sl, cat_rf, cat_i, cat_j]) (by simp [lv_args, cat_rf, cat_i, cat_j]) ?_
  intro p l e s m args below meth c hr hlk hin cx
  have hk0 := dn_eq hk
  unfold f_X10_digest at h
  refine k_ldc2 cx 805 lw_X10_268 dX10_digest_0 ?_
  refine k_lstore_n cx (i := 1) [(1, .long 805), (0, va_rf (some t))] dX10_digest_3 rfl (by decide) (by simp [cat_rf, cat_i, cat_j]) ?_
  refine k_iconst cx 0 dX10_digest_4 (by decide) ?_
  refine k_istore_n cx (i := 3) [(3, .int 0), (1, .long 805), (0, va_rf (some t))] dX10_digest_5 rfl (by decide) (by simp [cat_rf, cat_i, cat_j]) ?_
  obtain ⟨x2, hxx2, h⟩ := bind_ok h
  have Kx2 : Og p l e s m args below meth c Γ 4 5 118 σ (some (.long ρ)) σ 28 [(0, va_rf (some t)), (1, .long x2)] [] σ := by
    refine k_aload_n cx 0 dX10_digest_28 rfl rfl ?_
    refine k_lload_n cx 1 dX10_digest_29 rfl rfl ?_
    obtain ⟨q8, g9, h⟩ := bind_ok h
    refine k_callV cx iv_X10_276 (ci := 10) rfl (by decide) (w_X10_withLines (dn_some hk0).2 g9) hk0 (As := [.long x2]) rfl rfl ⟨Nat.le_of_ble_eq_true rfl, Nat.le_of_ble_eq_true rfl⟩ (by simp [cat_rf, cat_i, cat_j]) dX10_digest_30 ?_
    refine k_lstore_n cx (i := 1) [(1, .long q8), (0, va_rf (some t))] dX10_digest_33 rfl (by decide) (by simp [cat_rf, cat_i, cat_j]) ?_
    refine k_aload_n cx 1 dX10_digest_34 rfl rfl ?_
    refine k_lload_n cx 0 dX10_digest_35 rfl rfl ?_
    obtain ⟨q10, g11, h⟩ := bind_ok h
    refine k_callV cx iv_X10_280 (ci := 10) rfl (by decide) (w_X10_withRows (dn_some hk0).2 g11) hk0 (As := [.long q8]) rfl rfl ⟨Nat.le_of_ble_eq_true rfl, Nat.le_of_ble_eq_true rfl⟩ (by simp [cat_rf, cat_i, cat_j]) dX10_digest_36 ?_
    refine k_lstore_n cx (i := 1) [(1, .long q10), (0, va_rf (some t))] dX10_digest_39 rfl (by decide) (by simp [cat_rf, cat_i, cat_j]) ?_
    refine k_aload_n cx 1 dX10_digest_40 rfl rfl ?_
    refine k_lload_n cx 0 dX10_digest_41 rfl rfl ?_
    obtain ⟨q12, g13, h⟩ := bind_ok h
    refine k_callV cx iv_X10_283 (ci := 10) rfl (by decide) (w_X10_withPages (dn_some hk0).2 g13) hk0 (As := [.long q10]) rfl rfl ⟨Nat.le_of_ble_eq_true rfl, Nat.le_of_ble_eq_true rfl⟩ (by simp [cat_rf, cat_i, cat_j]) dX10_digest_42 ?_
    refine k_lstore_n cx (i := 1) [(1, .long q12), (0, va_rf (some t))] dX10_digest_45 rfl (by decide) (by simp [cat_rf, cat_i, cat_j]) ?_
    refine k_aload_n cx 1 dX10_digest_46 rfl rfl ?_
    refine k_lload_n cx 0 dX10_digest_47 rfl rfl ?_
    obtain ⟨q14, g15, h⟩ := bind_ok h
    refine k_callV cx iv_X10_286 (ci := 10) rfl (by decide) (w_X10_withPlaces (dn_some hk0).2 g15) hk0 (As := [.long q12]) rfl rfl ⟨Nat.le_of_ble_eq_true rfl, Nat.le_of_ble_eq_true rfl⟩ (by simp [cat_rf, cat_i, cat_j]) dX10_digest_48 ?_
    refine k_lstore_n cx (i := 1) [(1, .long q14), (0, va_rf (some t))] dX10_digest_51 rfl (by decide) (by simp [cat_rf, cat_i, cat_j]) ?_
    refine k_iconst cx 0 dX10_digest_52 (by decide) ?_
    refine k_istore_n cx (i := 3) [(3, .int 0), (1, .long q14), (0, va_rf (some t))] dX10_digest_53 rfl (by decide) (by simp [cat_rf, cat_i, cat_j]) ?_
    obtain ⟨x17, hxx17, h⟩ := bind_ok h
    have Kx17 : Og p l e s m args below meth c Γ 4 5 118 σ (some (.long ρ)) σ 81 [(0, va_rf (some t)), (1, .long x17)] [] σ := by
      refine k_iconst cx 0 dX10_digest_81 (by decide) ?_
      refine k_istore_n cx (i := 3) [(3, .int 0), (0, va_rf (some t)), (1, .long x17)] dX10_digest_82 rfl (by decide) (by simp [cat_rf, cat_i, cat_j]) ?_
      obtain ⟨x26, hxx26, h⟩ := bind_ok h
      have Kx26 : Og p l e s m args below meth c Γ 4 5 118 σ (some (.long ρ)) σ 113 [(1, .long x26)] [] σ := by
        refine k_lload_n cx 0 dX10_digest_113 rfl rfl ?_
        have h := Option.some.inj h
        exact k_lret cx hr hlk (by rw [← h]) rfl dX10_digest_114
      have KLx26 : ∀ (n : Nat) (v1 : Int64) (v3 : Int32), LX10_digest_83 n σ t v1 v3 = some x26 → Og p l e s m args below meth c Γ 4 5 118 σ (some (.long ρ)) σ 83 [(0, va_rf (some t)), (1, .long v1), (3, .int v3)] [] σ := by
        intro n
        induction n with
        | zero => intro _ _ h; cases (show (none : Option _) = some x26 from h)
        | succ n ihx26 =>
          intro v1 v3 h
          rw [LX10_digest_83] at h
          refine k_iload_n cx 2 dX10_digest_83 rfl rfl ?_
          refine k_aload_n cx 0 dX10_digest_84 rfl rfl ?_
          refine q_getR cx fl_X10_12 hk0 dX10_digest_85 ?_
          obtain ⟨a27, g28, h⟩ := bind_ok h
          refine q_getI cx fl_X10_40 g28 dX10_digest_88 ?_
          refine k_icmp_ge cx 113 dX10_digest_91 (by decide) (fun c29 => ?_) (fun c29 => ?_)
          · have h := ite_t h c29
            refine k_sub [1] rfl ?_
            obtain rfl := Option.some.inj h
            exact Kx26
          · have h := ite_f h c29
            refine k_lload_n cx 1 dX10_digest_94 rfl rfl ?_
            refine k_aload_n cx 0 dX10_digest_95 rfl rfl ?_
            refine q_getR cx fl_X10_12 hk0 dX10_digest_96 ?_
            refine k_iload_n cx 2 dX10_digest_99 rfl rfl ?_
            obtain ⟨q30, g31, h⟩ := bind_ok h
            refine k_callV cx iv_X10_292 (ci := 8) rfl (by decide) (w_X8_byteAt (dn_some g28).2 g31) g28 (As := [.int v3]) rfl rfl ⟨Nat.le_of_ble_eq_true rfl, Nat.le_of_ble_eq_true rfl⟩ (by simp [cat_rf, cat_i, cat_j]) dX10_digest_100 ?_
            obtain ⟨q32, g33, h⟩ := bind_ok h
            refine k_callS cx iv_X10_272 (w_X10_mixed g33) (As := [.long v1, .int q30]) rfl rfl ⟨Nat.le_of_ble_eq_true rfl, Nat.le_of_ble_eq_true rfl⟩ (by simp [cat_rf, cat_i, cat_j]) dX10_digest_103 ?_
            refine k_lstore_n cx (i := 1) [(1, .long q32), (0, va_rf (some t)), (3, .int v3)] dX10_digest_106 rfl (by decide) (by simp [cat_rf, cat_i, cat_j]) ?_
            refine k_iinc cx 2 [(3, .int (v3 + 1)), (1, .long q32), (0, va_rf (some t))] (v3 + 1) dX10_digest_107 rfl rfl (by decide) (by simp [cat_rf, cat_i, cat_j]) ?_
            refine k_goto cx 83 dX10_digest_110 (by decide) ?_
            refine k_sub [2, 1, 0] rfl ?_
            exact ihx26 _ _ h
      refine k_sub [1, 2, 0] rfl ?_
      exact KLx26 FU _ _ hxx26
    have KLx17 : ∀ (n : Nat) (v1 : Int64) (v3 : Int32), LX10_digest_54 n σ t v1 v3 = some x17 → Og p l e s m args below meth c Γ 4 5 118 σ (some (.long ρ)) σ 54 [(0, va_rf (some t)), (1, .long v1), (3, .int v3)] [] σ := by
      intro n
      induction n with
      | zero => intro _ _ h; cases (show (none : Option _) = some x17 from h)
      | succ n ihx17 =>
        intro v1 v3 h
        rw [LX10_digest_54] at h
        refine k_iload_n cx 2 dX10_digest_54 rfl rfl ?_
        refine k_aload_n cx 0 dX10_digest_55 rfl rfl ?_
        refine q_getR cx fl_X10_33 hk0 dX10_digest_56 ?_
        obtain ⟨a18, g19, h⟩ := bind_ok h
        refine q_getI cx fl_X10_96 g19 dX10_digest_59 ?_
        refine k_icmp_ge cx 81 dX10_digest_62 (by decide) (fun c20 => ?_) (fun c20 => ?_)
        · have h := ite_t h c20
          refine k_sub [0, 1] rfl ?_
          obtain rfl := Option.some.inj h
          exact Kx17
        · have h := ite_f h c20
          refine k_lload_n cx 1 dX10_digest_65 rfl rfl ?_
          refine k_aload_n cx 0 dX10_digest_66 rfl rfl ?_
          refine k_iload_n cx 2 dX10_digest_67 rfl rfl ?_
          obtain ⟨q21, g22, h⟩ := bind_ok h
          refine k_callV cx iv_X10_289 (ci := 10) rfl (by decide) (w_X10_shape (dn_some hk0).2 g22) hk0 (As := [.int v3]) rfl rfl ⟨Nat.le_of_ble_eq_true rfl, Nat.le_of_ble_eq_true rfl⟩ (by simp [cat_rf, cat_i, cat_j]) dX10_digest_68 ?_
          obtain ⟨q23, g24, h⟩ := bind_ok h
          refine k_callS cx iv_X10_272 (w_X10_mixed g24) (As := [.long v1, .int q21]) rfl rfl ⟨Nat.le_of_ble_eq_true rfl, Nat.le_of_ble_eq_true rfl⟩ (by simp [cat_rf, cat_i, cat_j]) dX10_digest_71 ?_
          refine k_lstore_n cx (i := 1) [(1, .long q23), (0, va_rf (some t)), (3, .int v3)] dX10_digest_74 rfl (by decide) (by simp [cat_rf, cat_i, cat_j]) ?_
          refine k_iinc cx 2 [(3, .int (v3 + 1)), (1, .long q23), (0, va_rf (some t))] (v3 + 1) dX10_digest_75 rfl rfl (by decide) (by simp [cat_rf, cat_i, cat_j]) ?_
          refine k_goto cx 54 dX10_digest_78 (by decide) ?_
          refine k_sub [2, 1, 0] rfl ?_
          exact ihx17 _ _ h
    refine k_sub [2, 1, 0] rfl ?_
    exact KLx17 FU _ _ hxx17
  have KLx2 : ∀ (n : Nat) (v1 : Int64) (v3 : Int32), LX10_digest_6 n σ t v1 v3 = some x2 → Og p l e s m args below meth c Γ 4 5 118 σ (some (.long ρ)) σ 6 [(0, va_rf (some t)), (1, .long v1), (3, .int v3)] [] σ := by
    intro n
    induction n with
    | zero => intro _ _ h; cases (show (none : Option _) = some x2 from h)
    | succ n ihx2 =>
      intro v1 v3 h
      rw [LX10_digest_6] at h
      refine k_iload_n cx 2 dX10_digest_6 rfl rfl ?_
      refine k_bipush cx 16 dX10_digest_7 (by decide) ?_
      refine k_icmp_ge cx 28 dX10_digest_9 (by decide) (fun c3 => ?_) (fun c3 => ?_)
      · have h := ite_t h c3
        refine k_sub [0, 1] rfl ?_
        obtain rfl := Option.some.inj h
        exact Kx2
      · have h := ite_f h c3
        refine k_lload_n cx 1 dX10_digest_12 rfl rfl ?_
        refine k_aload_n cx 0 dX10_digest_13 rfl rfl ?_
        refine k_iload_n cx 2 dX10_digest_14 rfl rfl ?_
        obtain ⟨q4, g5, h⟩ := bind_ok h
        refine k_callV cx iv_X10_270 (ci := 10) rfl (by decide) (w_X10_count (dn_some hk0).2 g5) hk0 (As := [.int v3]) rfl rfl ⟨Nat.le_of_ble_eq_true rfl, Nat.le_of_ble_eq_true rfl⟩ (by simp [cat_rf, cat_i, cat_j]) dX10_digest_15 ?_
        obtain ⟨q6, g7, h⟩ := bind_ok h
        refine k_callS cx iv_X10_272 (w_X10_mixed g7) (As := [.long v1, .int q4]) rfl rfl ⟨Nat.le_of_ble_eq_true rfl, Nat.le_of_ble_eq_true rfl⟩ (by simp [cat_rf, cat_i, cat_j]) dX10_digest_18 ?_
        refine k_lstore_n cx (i := 1) [(1, .long q6), (0, va_rf (some t)), (3, .int v3)] dX10_digest_21 rfl (by decide) (by simp [cat_rf, cat_i, cat_j]) ?_
        refine k_iinc cx 2 [(3, .int (v3 + 1)), (1, .long q6), (0, va_rf (some t))] (v3 + 1) dX10_digest_22 rfl rfl (by decide) (by simp [cat_rf, cat_i, cat_j]) ?_
        refine k_goto cx 6 dX10_digest_25 (by decide) ?_
        refine k_sub [2, 1, 0] rfl ?_
        exact ihx2 _ _ h
  refine k_sub [2, 1, 0] rfl ?_
  exact KLx2 FU _ _ hxx2

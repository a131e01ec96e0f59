set_option maxRecDepth 100000 in
set_option maxHeartbeats 4000000 in
theorem w_X1_putWords {Γ : GE} {σ : St} {t : Nat} {p1 : Option Nat} {p2 : Option Nat} {p3 : Int32} {p4 : Int32} {ρ : St} (hk : hpK σ t = 1) (h : f_X1_putWords σ t p1 p2 p3 p4 = some ρ) : Ct Γ yX1_putWords cX1_putWords 9 none 4 93 [va_rf (some t), va_rf p1, va_rf p2, .int p3, .int p4] σ none ρ := by
  refine ct_intro (own := RX1) (L0 := [(0, va_rf (some t)), (1, va_rf p1), (2, va_rf p2), (3, .int p3), (4, .int p4)]) (by decide +kernel) rfl (by simp [lg_sl, cat_rf, cat_i, cat_j]) (by simp [lv_args, cat_rf, cat_i, cat_j]) ?_
  intro p l e s m args below meth c hr hlk hin cx
  have hk0 := dn_eq hk
  unfold f_X1_putWords at h
  refine k_aload_n cx 2 dX1_putWords_0 rfl rfl ?_
  refine k_astore cx [(5, va_rf p2), (0, va_rf (some t)), (1, va_rf p1), (2, va_rf p2), (3, .int p3), (4, .int p4)] dX1_putWords_1 (by decide) (by simp [cat_rf, cat_i, cat_j]) ?_
  refine k_iconst cx 0 dX1_putWords_3 (by decide) ?_
  refine k_istore cx [(6, .int 0), (5, va_rf p2), (0, va_rf (some t)), (1, va_rf p1), (2, va_rf p2), (3, .int p3), (4, .int p4)] dX1_putWords_4 (by decide) (by simp [cat_rf, cat_i, cat_j]) ?_
  refine k_iconst cx 0 dX1_putWords_6 (by decide) ?_
  refine k_istore cx [(7, .int 0), (6, .int 0), (5, va_rf p2), (0, va_rf (some t)), (1, va_rf p1), (2, va_rf p2), (3, .int p3), (4, .int p4)] dX1_putWords_7 (by decide) (by simp [cat_rf, cat_i, cat_j]) ?_
  obtain ⟨x2, hxx2, h⟩ := bind_ok h
  have Kx2 : Og p l e s m args below meth c Γ 9 4 93 σ none ρ 116 [] [] x2 := by
    have h := Option.some.inj h
    exact k_vret cx hr hlk rfl (by rw [← h]) dX1_putWords_116
  have KLx2 : ∀ (n : Nat) (v5_9 : Option Nat) (v6_9 : Int32) (v7_9 : Int32) (τ9 : St), LX1_putWords_9 n t p1 p3 p4 v5_9 v6_9 v7_9 τ9 = some x2 → Og p l e s m args below meth c Γ 9 4 93 σ none ρ 9 [(0, va_rf (some t)), (1, va_rf p1), (3, .int p3), (4, .int p4), (5, va_rf v5_9), (6, .int v6_9), (7, .int v7_9)] [] τ9 := by
    intro n
    induction n with
    | zero => intro _ _ _ _ h; cases (show (none : Option _) = some x2 from h)
    | succ n ihx2 =>
      intro v5_9 v6_9 v7_9 τ9 h
      rw [LX1_putWords_9] at h
      refine k_iload cx 6 dX1_putWords_9 rfl ?_
      refine k_aload_n cx 1 dX1_putWords_11 rfl rfl ?_
      obtain ⟨a3, g4, h⟩ := bind_ok h
      refine q_getI cx fl_X1_184 g4 dX1_putWords_12 ?_
      refine k_icmp_ge cx 116 dX1_putWords_15 (by decide) (fun c5 => ?_) (fun c5 => ?_)
      · have h := ite_t h c5
        refine k_sub [] rfl ?_
        obtain rfl := Option.some.inj h
        exact Kx2
      · have h := ite_f h c5
        refine k_aload_n cx 1 dX1_putWords_18 rfl rfl ?_
        refine k_iload cx 6 dX1_putWords_19 rfl ?_
        obtain ⟨q6, g7, h⟩ := bind_ok h
        refine k_callV cx iv_X1_187 (ci := 9) rfl (by decide) (w_X9_lengthOf (dn_some g4).2 g7) g4 (As := [.int v7_9]) rfl rfl ⟨Nat.le_of_ble_eq_true rfl, Nat.le_of_ble_eq_true rfl⟩ (by simp [cat_rf, cat_i, cat_j]) dX1_putWords_21 ?_
        refine k_istore cx [(8, .int q6), (0, va_rf (some t)), (1, va_rf p1), (3, .int p3), (4, .int p4), (5, va_rf v5_9), (6, .int v6_9), (7, .int v7_9)] dX1_putWords_24 (by decide) (by simp [cat_rf, cat_i, cat_j]) ?_
        refine k_aload cx 5 dX1_putWords_26 rfl ?_
        obtain ⟨a8, g9, h⟩ := bind_ok h
        refine q_getI cx fl_X1_190 g9 dX1_putWords_28 ?_
        obtain ⟨x10, hxx10, h⟩ := bind_ok h
        have Kx10 : Og p l e s m args below meth c Γ 9 4 93 σ none ρ 101 [(0, va_rf (some t)), (1, va_rf p1), (3, .int p3), (4, .int p4), (5, va_rf x10.1), (6, .int v6_9), (7, .int v7_9), (8, .int q6)] [] x10.2 := by
          refine k_iload cx 5 dX1_putWords_101 rfl ?_
          refine k_iload cx 7 dX1_putWords_103 rfl ?_
          refine k_iconst cx 1 dX1_putWords_105 (by decide) ?_
          refine k_iadd cx dX1_putWords_106 ?_
          refine k_iadd cx dX1_putWords_107 ?_
          refine k_istore cx [(6, .int (v6_9 + (q6 + 1))), (0, va_rf (some t)), (1, va_rf p1), (3, .int p3), (4, .int p4), (5, va_rf x10.1), (7, .int v7_9), (8, .int q6)] dX1_putWords_108 (by decide) (by simp [cat_rf, cat_i, cat_j]) ?_
          refine k_iinc cx 6 [(7, .int (v7_9 + 1)), (6, .int (v6_9 + (q6 + 1))), (0, va_rf (some t)), (1, va_rf p1), (3, .int p3), (4, .int p4), (5, va_rf x10.1), (8, .int q6)] (v7_9 + 1) dX1_putWords_110 rfl rfl (by decide) (by simp [cat_rf, cat_i, cat_j]) ?_
          refine k_goto cx 9 dX1_putWords_113 (by decide) ?_
          refine k_sub [2, 3, 4, 5, 6, 1, 0] rfl ?_
          exact ihx2 _ _ _ _ h
        have h := hxx10
        refine k_if_le cx 66 dX1_putWords_31 (by decide) (fun c11 => ?_) (fun c11 => ?_)
        · have h := ite_t h c11
          refine k_aload cx 5 dX1_putWords_66 rfl ?_
          refine q_getI cx fl_X1_190 g9 dX1_putWords_68 ?_
          obtain ⟨x12, hxx12, h⟩ := bind_ok h
          have Kx12 : Og p l e s m args below meth c Γ 9 4 93 σ none ρ 88 [(0, va_rf (some t)), (1, va_rf p1), (3, .int p3), (4, .int p4), (5, va_rf x12.1), (6, .int v6_9), (7, .int v7_9), (8, .int q6)] [] x12.2 := by
            refine k_aload_n cx 0 dX1_putWords_88 rfl rfl ?_
            refine k_iload cx 7 dX1_putWords_89 rfl ?_
            refine k_aload cx 4 dX1_putWords_91 rfl ?_
            refine k_iload_n cx 2 dX1_putWords_93 rfl rfl ?_
            refine k_iload cx 3 dX1_putWords_94 rfl ?_
            obtain ⟨a18, g19, h⟩ := bind_ok h
            obtain ⟨q20, g21, h⟩ := bind_ok h
            refine k_callV cx iv_X1_200 (ci := 1) rfl (by decide) (w_X1_putWord (dn_some g19).2 g21) g19 (As := [.int q6, va_rf x12.1, .int p3, .int p4]) rfl rfl ⟨Nat.le_of_ble_eq_true rfl, Nat.le_of_ble_eq_true rfl⟩ (by simp [cat_rf, cat_i, cat_j]) dX1_putWords_96 ?_
            refine k_astore cx [(5, va_rf q20.1), (0, va_rf (some t)), (1, va_rf p1), (3, .int p3), (4, .int p4), (6, .int v6_9), (7, .int v7_9), (8, .int q6)] dX1_putWords_99 (by decide) (by simp [cat_rf, cat_i, cat_j]) ?_
            refine k_sub [1, 2, 3, 4, 0, 5, 6, 7] rfl ?_
            obtain rfl := Option.some.inj h
            exact Kx10
          have h := hxx12
          refine k_if_le cx 88 dX1_putWords_71 (by decide) (fun c13 => ?_) (fun c13 => ?_)
          · have h := ite_t h c13
            refine k_sub [1, 2, 3, 4, 5, 6, 7, 0] rfl ?_
            obtain rfl := Option.some.inj h
            exact Kx12
          · have h := ite_f h c13
            refine k_aload_n cx 1 dX1_putWords_74 rfl rfl ?_
            refine k_aload cx 5 dX1_putWords_75 rfl ?_
            refine q_getI cx fl_X1_197 g9 dX1_putWords_77 ?_
            refine k_iload_n cx 3 dX1_putWords_80 rfl rfl ?_
            refine k_iload cx 6 dX1_putWords_81 rfl ?_
            obtain ⟨a14, g15, h⟩ := bind_ok h
            obtain ⟨q16, g17, h⟩ := bind_ok h
            refine k_callV cx iv_X1_177 (ci := 1) rfl (by decide) (w_X1_addRow (dn_some g15).2 g17) g15 (As := [.int (hpI τ9 192 a8), .int p3, .int v6_9]) rfl rfl ⟨Nat.le_of_ble_eq_true rfl, Nat.le_of_ble_eq_true rfl⟩ (by simp [cat_rf, cat_i, cat_j]) dX1_putWords_83 ?_
            refine k_astore cx [(5, va_rf q16.1), (8, .int q6), (0, va_rf (some t)), (1, va_rf p1), (3, .int p3), (4, .int p4), (6, .int v6_9), (7, .int v7_9)] dX1_putWords_86 (by decide) (by simp [cat_rf, cat_i, cat_j]) ?_
            refine k_sub [2, 3, 4, 5, 0, 6, 7, 1] rfl ?_
            obtain rfl := Option.some.inj h
            exact Kx12
        · have h := ite_f h c11
          refine k_aload cx 5 dX1_putWords_34 rfl ?_
          obtain ⟨q22, g23, h⟩ := bind_ok h
          refine k_callV cx iv_X1_193 (ci := 6) rfl (by decide) (w_X6_end (dn_some g9).2 g23) g9 (As := []) rfl rfl ⟨Nat.le_of_ble_eq_true rfl, Nat.le_of_ble_eq_true rfl⟩ (by simp [cat_rf, cat_i, cat_j]) dX1_putWords_36 ?_
          refine k_iconst cx 1 dX1_putWords_39 (by decide) ?_
          refine k_iadd cx dX1_putWords_40 ?_
          refine k_iload cx 0 dX1_putWords_41 rfl ?_
          refine k_iadd cx dX1_putWords_43 ?_
          refine k_iload cx 4 dX1_putWords_44 rfl ?_
          refine k_icmp_gt cx 66 dX1_putWords_46 (by decide) (fun c24 => ?_) (fun c24 => ?_)
          · have h := ite_t h c24
            refine k_aload cx 5 dX1_putWords_66 rfl ?_
            refine q_getI cx fl_X1_190 g9 dX1_putWords_68 ?_
            obtain ⟨x25, hxx25, h⟩ := bind_ok h
            have Kx25 : Og p l e s m args below meth c Γ 9 4 93 σ none ρ 88 [(0, va_rf (some t)), (1, va_rf p1), (3, .int p3), (4, .int p4), (5, va_rf x25.1), (6, .int v6_9), (7, .int v7_9), (8, .int q6)] [] x25.2 := by
              refine k_aload_n cx 0 dX1_putWords_88 rfl rfl ?_
              refine k_iload cx 7 dX1_putWords_89 rfl ?_
              refine k_aload cx 4 dX1_putWords_91 rfl ?_
              refine k_iload_n cx 2 dX1_putWords_93 rfl rfl ?_
              refine k_iload cx 3 dX1_putWords_94 rfl ?_
              obtain ⟨a31, g32, h⟩ := bind_ok h
              obtain ⟨q33, g34, h⟩ := bind_ok h
              refine k_callV cx iv_X1_200 (ci := 1) rfl (by decide) (w_X1_putWord (dn_some g32).2 g34) g32 (As := [.int q6, va_rf x25.1, .int p3, .int p4]) rfl rfl ⟨Nat.le_of_ble_eq_true rfl, Nat.le_of_ble_eq_true rfl⟩ (by simp [cat_rf, cat_i, cat_j]) dX1_putWords_96 ?_
              refine k_astore cx [(5, va_rf q33.1), (0, va_rf (some t)), (1, va_rf p1), (3, .int p3), (4, .int p4), (6, .int v6_9), (7, .int v7_9), (8, .int q6)] dX1_putWords_99 (by decide) (by simp [cat_rf, cat_i, cat_j]) ?_
              refine k_sub [1, 2, 3, 4, 0, 5, 6, 7] rfl ?_
              obtain rfl := Option.some.inj h
              exact Kx10
            have h := hxx25
            refine k_if_le cx 88 dX1_putWords_71 (by decide) (fun c26 => ?_) (fun c26 => ?_)
            · have h := ite_t h c26
              refine k_sub [1, 2, 3, 4, 5, 6, 7, 0] rfl ?_
              obtain rfl := Option.some.inj h
              exact Kx25
            · have h := ite_f h c26
              refine k_aload_n cx 1 dX1_putWords_74 rfl rfl ?_
              refine k_aload cx 5 dX1_putWords_75 rfl ?_
              refine q_getI cx fl_X1_197 g9 dX1_putWords_77 ?_
              refine k_iload_n cx 3 dX1_putWords_80 rfl rfl ?_
              refine k_iload cx 6 dX1_putWords_81 rfl ?_
              obtain ⟨a27, g28, h⟩ := bind_ok h
              obtain ⟨q29, g30, h⟩ := bind_ok h
              refine k_callV cx iv_X1_177 (ci := 1) rfl (by decide) (w_X1_addRow (dn_some g28).2 g30) g28 (As := [.int (hpI τ9 192 a8), .int p3, .int v6_9]) rfl rfl ⟨Nat.le_of_ble_eq_true rfl, Nat.le_of_ble_eq_true rfl⟩ (by simp [cat_rf, cat_i, cat_j]) dX1_putWords_83 ?_
              refine k_astore cx [(5, va_rf q29.1), (8, .int q6), (0, va_rf (some t)), (1, va_rf p1), (3, .int p3), (4, .int p4), (6, .int v6_9), (7, .int v7_9)] dX1_putWords_86 (by decide) (by simp [cat_rf, cat_i, cat_j]) ?_
              refine k_sub [2, 3, 4, 5, 0, 6, 7, 1] rfl ?_
              obtain rfl := Option.some.inj h
              exact Kx25
          · have h := ite_f h c24
            refine k_aload cx 5 dX1_putWords_49 rfl ?_
            refine k_dup cx (by simp [cat_rf, cat_i, cat_j]) dX1_putWords_51 ?_
            refine q_getI cx fl_X1_190 g9 dX1_putWords_52 ?_
            refine k_iconst cx 1 dX1_putWords_55 (by decide) ?_
            refine k_iload cx 0 dX1_putWords_56 rfl ?_
            refine k_iadd cx dX1_putWords_58 ?_
            refine k_iadd cx dX1_putWords_59 ?_
            refine q_putI cx pl_X1_190 g9 dX1_putWords_60 ?_
            refine k_goto cx 101 dX1_putWords_63 (by decide) ?_
            refine k_sub [1, 2, 3, 4, 5, 6, 7, 0] rfl ?_
            obtain rfl := Option.some.inj h
            exact Kx10
  refine k_sub [3, 4, 6, 7, 2, 1, 0] rfl ?_
  exact KLx2 FU _ _ _ _ hxx2
set_option maxRecDepth 100000 in
set_option maxHeartbeats 4000000 in
theorem w_X1_breakLines {Γ : GE} {σ : St} {t : Nat} {p1 : Option Nat} {p2 : Int32} {ρ : St} (hk : hpK σ t = 1) (h : f_X1_breakLines σ t p1 p2 = some ρ) : Ct Γ yX1_breakLines cX1_breakLines 9 none 5 121 [va_rf (some t), va_rf p1, .int p2] σ none ρ := by
  refine ct_intro (own := RX1) (L0 := [(0, va_rf (some t)), (1, va_rf p1), (2, .int p2)]) (by decide +kernel) rfl (by simp [lg_sl, cat_rf, cat_i, cat_j]) (by simp [lv_args, cat_rf, cat_i, cat_j]) ?_
  intro p l e s m args below meth c hr hlk hin cx
  have hk0 := dn_eq hk
  unfold f_X1_breakLines at h
  refine k_aload_n cx 0 dX1_breakLines_0 rfl rfl ?_
  refine k_iconst cx 0 dX1_breakLines_1 (by decide) ?_
  refine q_putI cx pl_X1_35 hk0 dX1_breakLines_2 ?_
  refine k_aload_n cx 0 dX1_breakLines_5 rfl rfl ?_
  refine k_iconst cx 0 dX1_breakLines_6 (by decide) ?_
  refine q_putI cx pl_X1_45 hk0 dX1_breakLines_7 ?_
  refine k_aload_n cx 0 dX1_breakLines_10 rfl rfl ?_
  refine k_iconst cx 0 dX1_breakLines_11 (by decide) ?_
  refine q_putI cx pl_X1_39 hk0 dX1_breakLines_12 ?_
  refine k_iconst cx 0 dX1_breakLines_15 (by decide) ?_
  refine k_istore_n cx (i := 3) [(3, .int 0), (0, va_rf (some t)), (1, va_rf p1), (2, .int p2)] dX1_breakLines_16 rfl (by decide) (by simp [cat_rf, cat_i, cat_j]) ?_
  obtain ⟨x2, hxx2, h⟩ := bind_ok h
  have Kx2 : Og p l e s m args below meth c Γ 9 5 121 σ none ρ 171 [] [] x2 := by
    have h := Option.some.inj h
    exact k_vret cx hr hlk rfl (by rw [← h]) dX1_breakLines_171
  have KLx2 : ∀ (n : Nat) (v3_17 : Int32) (τ17 : St), LX1_breakLines_17 n t p1 p2 v3_17 τ17 = some x2 → Og p l e s m args below meth c Γ 9 5 121 σ none ρ 17 [(0, va_rf (some t)), (1, va_rf p1), (2, .int p2), (3, .int v3_17)] [] τ17 := by
    intro n
    induction n with
    | zero => intro _ _ h; cases (show (none : Option _) = some x2 from h)
    | succ n ihx2 =>
      intro v3_17 τ17 h
      rw [LX1_breakLines_17] at h
      refine k_iload_n cx 3 dX1_breakLines_17 rfl rfl ?_
      refine k_aload_n cx 1 dX1_breakLines_18 rfl rfl ?_
      obtain ⟨a3, g4, h⟩ := bind_ok h
      refine q_getI cx fl_X1_107 g4 dX1_breakLines_19 ?_
      refine k_icmp_ge cx 171 dX1_breakLines_22 (by decide) (fun c5 => ?_) (fun c5 => ?_)
      · have h := ite_t h c5
        refine k_sub [] rfl ?_
        obtain rfl := Option.some.inj h
        exact Kx2
      · have h := ite_f h c5
        refine k_aload_n cx 1 dX1_breakLines_25 rfl rfl ?_
        refine k_iload_n cx 3 dX1_breakLines_26 rfl rfl ?_
        obtain ⟨q6, g7, h⟩ := bind_ok h
        refine k_callV cx iv_X1_112 (ci := 5) rfl (by decide) (w_X5_lineAt (dn_some g4).2 g7) g4 (As := [.int v3_17]) rfl rfl ⟨Nat.le_of_ble_eq_true rfl, Nat.le_of_ble_eq_true rfl⟩ (by simp [cat_rf, cat_i, cat_j]) dX1_breakLines_27 ?_
        refine k_astore cx [(4, va_rf q6), (0, va_rf (some t)), (1, va_rf p1), (2, .int p2), (3, .int v3_17)] dX1_breakLines_30 (by decide) (by simp [cat_rf, cat_i, cat_j]) ?_
        refine k_aload cx 0 dX1_breakLines_32 rfl ?_
        obtain ⟨x8, hxx8, h⟩ := bind_ok h
        have Kx8 : Og p l e s m args below meth c Γ 9 5 121 σ none ρ 165 [(0, va_rf (some t)), (1, va_rf p1), (2, .int p2), (3, .int v3_17)] [] x8 := by
          refine k_iinc cx 3 [(3, .int (v3_17 + 1)), (0, va_rf (some t)), (1, va_rf p1), (2, .int p2)] (v3_17 + 1) dX1_breakLines_165 rfl rfl (by decide) (by simp [cat_rf, cat_i, cat_j]) ?_
          refine k_goto cx 17 dX1_breakLines_168 (by decide) ?_
          refine k_sub [1, 2, 3, 0] rfl ?_
          exact ihx2 _ _ h
        have h := hxx8
        refine k_ifnull cx 165 dX1_breakLines_34 (by decide) (fun c9 => ?_) (fun a52 c9 => ?_)
        · have h := ite_t h c9
          refine k_sub [1, 2, 3, 4] rfl ?_
          obtain rfl := Option.some.inj h
          exact Kx8
        · have h := ite_f h (ne_nn c9)
          refine k_aload_n cx 2 dX1_breakLines_37 rfl rfl ?_
          refine k_iload_n cx 4 dX1_breakLines_38 rfl rfl ?_
          obtain ⟨q10, g11, h⟩ := bind_ok h
          refine k_callV cx iv_X1_116 (ci := 5) rfl (by decide) (w_X5_beginsStanza (dn_some g4).2 g11) g4 (As := [.int v3_17]) rfl rfl ⟨Nat.le_of_ble_eq_true rfl, Nat.le_of_ble_eq_true rfl⟩ (by simp [cat_rf, cat_i, cat_j]) dX1_breakLines_39 ?_
          obtain ⟨x12, hxx12, h⟩ := bind_ok h
          have Kx12 : Og p l e s m args below meth c Γ 9 5 121 σ none ρ 58 [(0, va_rf (some t)), (1, va_rf p1), (2, .int p2), (3, .int v3_17), (4, va_rf q6)] [va_rf x12.1] x12.2 := by
            refine k_astore cx [(5, va_rf x12.1), (0, va_rf (some t)), (1, va_rf p1), (2, .int p2), (3, .int v3_17), (4, va_rf q6)] dX1_breakLines_58 (by decide) (by simp [cat_rf, cat_i, cat_j]) ?_
            refine k_aload_n cx 1 dX1_breakLines_60 rfl rfl ?_
            refine k_aload cx 5 dX1_breakLines_61 rfl ?_
            refine k_iload_n cx 4 dX1_breakLines_63 rfl rfl ?_
            refine k_aload cx 0 dX1_breakLines_64 rfl ?_
            obtain ⟨a22, g23, h⟩ := bind_ok h
            refine q_getI cx fl_X1_127 g23 dX1_breakLines_66 ?_
            obtain ⟨x24, hxx24, h⟩ := bind_ok h
            have Kx24 : Og p l e s m args below meth c Γ 9 5 121 σ none ρ 77 [(0, va_rf (some t)), (1, va_rf p1), (2, .int p2), (3, .int v3_17), (4, va_rf q6), (5, va_rf x12.1)] [.int x24, va_rf q6, va_rf (some t)] x12.2 := by
              obtain ⟨a26, g27, h⟩ := bind_ok h
              obtain ⟨q28, g29, h⟩ := bind_ok h
              refine k_callV cx iv_X1_130 (ci := 1) rfl (by decide) (w_X1_addSpan (dn_some g27).2 g29) g27 (As := [va_rf q6, .int x24]) rfl rfl ⟨Nat.le_of_ble_eq_true rfl, Nat.le_of_ble_eq_true rfl⟩ (by simp [cat_rf, cat_i, cat_j]) dX1_breakLines_77 ?_
              refine k_astore cx [(6, va_rf q28.1), (0, va_rf (some t)), (1, va_rf p1), (2, .int p2), (3, .int v3_17), (4, va_rf q6), (5, va_rf x12.1)] dX1_breakLines_80 (by decide) (by simp [cat_rf, cat_i, cat_j]) ?_
              refine k_aload_n cx 1 dX1_breakLines_82 rfl rfl ?_
              refine k_aload cx 5 dX1_breakLines_83 rfl ?_
              refine k_iload_n cx 4 dX1_breakLines_85 rfl rfl ?_
              refine k_aload cx 0 dX1_breakLines_86 rfl ?_
              refine k_aload_n cx 2 dX1_breakLines_88 rfl rfl ?_
              refine k_iload_n cx 3 dX1_breakLines_89 rfl rfl ?_
              obtain ⟨a30, g31, h⟩ := bind_ok h
              obtain ⟨q32, g33, h⟩ := bind_ok h
              refine k_callV cx iv_X1_134 (ci := 1) rfl (by decide) (w_X1_addFirstRow (dn_some g31).2 g33) g31 (As := [va_rf q6, .int v3_17, va_rf q28.1, va_rf p1, .int p2]) rfl rfl ⟨Nat.le_of_ble_eq_true rfl, Nat.le_of_ble_eq_true rfl⟩ (by simp [cat_rf, cat_i, cat_j]) dX1_breakLines_90 ?_
              refine k_astore cx [(7, va_rf q32.1), (6, va_rf q28.1), (0, va_rf (some t)), (1, va_rf p1), (2, .int p2), (3, .int v3_17), (4, va_rf q6), (5, va_rf x12.1)] dX1_breakLines_93 (by decide) (by simp [cat_rf, cat_i, cat_j]) ?_
              refine k_aload cx 6 dX1_breakLines_95 rfl ?_
              obtain ⟨a34, g35, h⟩ := bind_ok h
              refine q_getI cx fl_X1_138 g35 dX1_breakLines_97 ?_
              refine k_aload_n cx 3 dX1_breakLines_100 rfl rfl ?_
              refine k_iconst cx 2 dX1_breakLines_101 (by decide) ?_
              obtain ⟨a36, g37, h⟩ := bind_ok h
              obtain ⟨q38, g39, h⟩ := bind_ok h
              refine k_callV cx iv_X1_143 (ci := 5) rfl (by decide) (w_X5_setting (dn_some g37).2 g39) g37 (As := [.int 2]) rfl rfl ⟨Nat.le_of_ble_eq_true rfl, Nat.le_of_ble_eq_true rfl⟩ (by simp [cat_rf, cat_i, cat_j]) dX1_breakLines_102 ?_
              refine k_imul cx dX1_breakLines_105 ?_
              refine k_aload_n cx 3 dX1_breakLines_106 rfl rfl ?_
              refine k_iconst cx 3 dX1_breakLines_107 (by decide) ?_
              obtain ⟨q40, g41, h⟩ := bind_ok h
              refine k_callV cx iv_X1_143 (ci := 5) rfl (by decide) (w_X5_setting (dn_some g37).2 g41) g37 (As := [.int 3]) rfl rfl ⟨Nat.le_of_ble_eq_true rfl, Nat.le_of_ble_eq_true rfl⟩ (by simp [cat_rf, cat_i, cat_j]) dX1_breakLines_108 ?_
              refine k_iadd cx dX1_breakLines_111 ?_
              refine k_istore cx [(8, .int (((hpI q32.2 65 a34) * q38) + q40)), (7, va_rf q32.1), (6, va_rf q28.1), (0, va_rf (some t)), (1, va_rf p1), (2, .int p2), (3, .int v3_17), (4, va_rf q6), (5, va_rf x12.1)] dX1_breakLines_112 (by decide) (by simp [cat_rf, cat_i, cat_j]) ?_
              refine k_aload_n cx 3 dX1_breakLines_114 rfl rfl ?_
              refine k_aload cx 7 dX1_breakLines_115 rfl ?_
              refine q_getR cx fl_X1_146 g35 dX1_breakLines_117 ?_
              refine k_aload cx 1 dX1_breakLines_120 rfl ?_
              refine k_iload cx 0 dX1_breakLines_122 rfl ?_
              refine k_iload_n cx 5 dX1_breakLines_124 rfl rfl ?_
              refine k_bipush cx 6 dX1_breakLines_125 (by decide) ?_
              refine k_isub cx dX1_breakLines_127 ?_
              refine k_min cx mw_X1_150 ⟨Nat.le_of_ble_eq_true rfl, Nat.le_of_ble_eq_true rfl⟩ (by simp [cat_rf, cat_i, cat_j]) dX1_breakLines_128 ?_
              refine k_iload_n cx 5 dX1_breakLines_131 rfl rfl ?_
              obtain ⟨a42, g43, h⟩ := bind_ok h
              obtain ⟨q44, g45, h⟩ := bind_ok h
              refine k_callV cx iv_X1_153 (ci := 1) rfl (by decide) (w_X1_putWords (dn_some g43).2 g45) g43 (As := [va_rf (hpR q32.2 64 a34), va_rf q32.1, .int (jmin (((hpI q32.2 65 a34) * q38) + q40) (p2 - 6)), .int p2]) rfl rfl ⟨Nat.le_of_ble_eq_true rfl, Nat.le_of_ble_eq_true rfl⟩ (by simp [cat_rf, cat_i, cat_j]) dX1_breakLines_132 ?_
              refine k_aload cx 2 dX1_breakLines_135 rfl ?_
              refine k_aload_n cx 3 dX1_breakLines_137 rfl rfl ?_
              obtain ⟨a46, g47, h⟩ := bind_ok h
              refine q_getI cx fl_X1_35 g47 dX1_breakLines_138 ?_
              refine k_aload cx 2 dX1_breakLines_141 rfl ?_
              obtain ⟨a48, g49, h⟩ := bind_ok h
              refine q_getI cx fl_X1_157 g49 dX1_breakLines_143 ?_
              refine k_isub cx dX1_breakLines_146 ?_
              refine q_putI cx pl_X1_158 g49 dX1_breakLines_147 ?_
              refine k_aload cx 8 dX1_breakLines_150 rfl ?_
              refine k_dup cx (by simp [cat_rf, cat_i, cat_j]) dX1_breakLines_152 ?_
              obtain ⟨a50, g51, h⟩ := bind_ok h
              refine q_getI cx fl_X1_96 g51 dX1_breakLines_153 ?_
              refine k_aload cx 2 dX1_breakLines_156 rfl ?_
              refine q_getI cx fl_X1_158 g49 dX1_breakLines_158 ?_
              refine k_iadd cx dX1_breakLines_161 ?_
              refine q_putI cx pl_X1_96 g51 dX1_breakLines_162 ?_
              refine k_sub [3, 4, 5, 6] rfl ?_
              obtain rfl := Option.some.inj h
              exact Kx8
            have h := hxx24
            refine k_icmp_le cx 76 dX1_breakLines_69 (by decide) (fun c25 => ?_) (fun c25 => ?_)
            · have h := ite_t h c25
              refine k_iconst cx 0 dX1_breakLines_76 (by decide) ?_
              refine k_sub [1, 2, 3, 4, 5, 0] rfl ?_
              obtain rfl := Option.some.inj h
              exact Kx24
            · have h := ite_f h c25
              refine k_iconst cx 1 dX1_breakLines_72 (by decide) ?_
              refine k_goto cx 77 dX1_breakLines_73 (by decide) ?_
              refine k_sub [1, 2, 3, 4, 5, 0] rfl ?_
              obtain rfl := Option.some.inj h
              exact Kx24
          have h := hxx12
          refine k_if_eq cx 53 dX1_breakLines_42 (by decide) (fun c13 => ?_) (fun c13 => ?_)
          · have h := ite_t h c13
            refine k_aload_n cx 1 dX1_breakLines_53 rfl rfl ?_
            refine k_iload_n cx 4 dX1_breakLines_54 rfl rfl ?_
            obtain ⟨a14, g15, h⟩ := bind_ok h
            obtain ⟨q16, g17, h⟩ := bind_ok h
            refine k_callV cx iv_X1_124 (ci := 1) rfl (by decide) (w_X1_lastStanza (dn_some g15).2 g17) g15 (As := [.int v3_17]) rfl rfl ⟨Nat.le_of_ble_eq_true rfl, Nat.le_of_ble_eq_true rfl⟩ (by simp [cat_rf, cat_i, cat_j]) dX1_breakLines_55 ?_
            refine k_sub [1, 2, 3, 4, 0] rfl ?_
            obtain rfl := Option.some.inj h
            exact Kx12
          · have h := ite_f h c13
            refine k_aload_n cx 1 dX1_breakLines_45 rfl rfl ?_
            refine k_iload_n cx 4 dX1_breakLines_46 rfl rfl ?_
            obtain ⟨a18, g19, h⟩ := bind_ok h
            obtain ⟨q20, g21, h⟩ := bind_ok h
            refine k_callV cx iv_X1_120 (ci := 1) rfl (by decide) (w_X1_addStanza (dn_some g19).2 g21) g19 (As := [.int v3_17]) rfl rfl ⟨Nat.le_of_ble_eq_true rfl, Nat.le_of_ble_eq_true rfl⟩ (by simp [cat_rf, cat_i, cat_j]) dX1_breakLines_47 ?_
            refine k_goto cx 58 dX1_breakLines_50 (by decide) ?_
            refine k_sub [1, 2, 3, 4, 0] rfl ?_
            obtain rfl := Option.some.inj h
            exact Kx12
  refine k_sub [1, 2, 3, 0] rfl ?_
  exact KLx2 FU _ _ hxx2
set_option maxRecDepth 100000 in
set_option maxHeartbeats 4000000 in
theorem w_X1_closePage {Γ : GE} {σ : St} {t : Nat} {p1 : Int32} {ρ : St} (hk : hpK σ t = 1) (h : f_X1_closePage σ t p1 = some ρ) : Ct Γ yX1_closePage cX1_closePage 2 none 0 0 [va_rf (some t), .int p1] σ none ρ := by
  refine ct_intro (own := RX1) (L0 := [(0, va_rf (some t)), (1, .int p1)]) (by decide +kernel) rfl (by simp [lg_sl, cat_rf, cat_i, cat_j]) (by simp [lv_args, cat_rf, cat_i, cat_j]) ?_
  intro p l e s m args below meth c hr hlk hin cx
  have hk0 := dn_eq hk
  unfold f_X1_closePage at h
  refine k_aload_n cx 0 dX1_closePage_0 rfl rfl ?_
  refine k_iload_n cx 1 dX1_closePage_1 rfl rfl ?_
  refine q_putI cx pl_X1_48 hk0 dX1_closePage_2 ?_
  have h := Option.some.inj h
  exact k_vret cx hr hlk rfl (by rw [← h]) dX1_closePage_5
set_option maxRecDepth 100000 in
set_option maxHeartbeats 4000000 in
theorem w_X1_passOver {Γ : GE} {σ : St} {t : Nat} {p1 : Option Nat} {p2 : Int32} {p3 : Int32} {ρ : St} (hk : hpK σ t = 1) (h : f_X1_passOver σ t p1 p2 p3 = some ρ) : Ct Γ yX1_passOver cX1_passOver 7 none 1 21 [va_rf (some t), va_rf p1, .int p2, .int p3] σ none ρ := by
  refine ct_intro (own := RX1) (L0 := [(0, va_rf (some t)), (1, va_rf p1), (2, .int p2), (3, .int p3)]) (by decide +kernel) rfl (by simp [lg_sl, cat_rf, cat_i, cat_j]) (by simp [lv_args, cat_rf, cat_i, cat_j]) ?_
  intro p l e s m args below meth c hr hlk hin cx
  have hk0 := dn_eq hk
  unfold f_X1_passOver at h
  refine k_aload_n cx 0 dX1_passOver_0 rfl rfl ?_
  refine k_aload_n cx 1 dX1_passOver_1 rfl rfl ?_
  obtain ⟨a1, g2, h⟩ := bind_ok h
  refine q_getI cx fl_X1_127 g2 dX1_passOver_2 ?_
  obtain ⟨q3, g4, h⟩ := bind_ok h
  refine k_callV cx iv_X1_78 (ci := 1) rfl (by decide) (w_X1_spanAt (dn_some hk0).2 g4) hk0 (As := [.int (hpI σ 224 a1)]) rfl rfl ⟨Nat.le_of_ble_eq_true rfl, Nat.le_of_ble_eq_true rfl⟩ (by simp [cat_rf, cat_i, cat_j]) dX1_passOver_5 ?_
  refine k_astore cx [(4, va_rf q3), (0, va_rf (some t)), (1, va_rf p1), (2, .int p2), (3, .int p3)] dX1_passOver_8 (by decide) (by simp [cat_rf, cat_i, cat_j]) ?_
  refine k_aload_n cx 1 dX1_passOver_10 rfl rfl ?_
  refine q_getI cx fl_X1_42 hk0 dX1_passOver_11 ?_
  refine k_if_eq cx 22 dX1_passOver_14 (by decide) (fun c5 => ?_) (fun c5 => ?_)
  · have h := ite_t h c5
    have h := Option.some.inj h
    exact k_vret cx hr hlk rfl (by rw [← h]) dX1_passOver_22
  · have h := ite_f h c5
    refine k_aload cx 0 dX1_passOver_17 rfl ?_
    refine k_ifnonnull cx 23 dX1_passOver_19 (by decide) (fun c6 => ?_) (fun a18 c6 => ?_)
    · have h := ite_t h c6
      have h := Option.some.inj h
      exact k_vret cx hr hlk rfl (by rw [← h]) dX1_passOver_22
    · have h := ite_f h (ne_nn c6)
      refine k_iload_n cx 3 dX1_passOver_23 rfl rfl ?_
      refine k_aload_n cx 1 dX1_passOver_24 rfl rfl ?_
      refine q_getI cx fl_X1_48 hk0 dX1_passOver_25 ?_
      refine k_isub cx dX1_passOver_28 ?_
      refine k_iconst cx 1 dX1_passOver_29 (by decide) ?_
      refine k_isub cx dX1_passOver_30 ?_
      refine k_istore cx [(5, .int ((p2 - (hpI σ 40 t)) - 1)), (4, va_rf q3), (0, va_rf (some t)), (1, va_rf p1), (2, .int p2), (3, .int p3)] dX1_passOver_31 (by decide) (by simp [cat_rf, cat_i, cat_j]) ?_
      refine k_aload_n cx 3 dX1_passOver_33 rfl rfl ?_
      refine q_getI cx fl_X1_96 g2 dX1_passOver_34 ?_
      refine k_iload_n cx 5 dX1_passOver_37 rfl rfl ?_
      obtain ⟨x7, hxx7, h⟩ := bind_ok h
      have Kx7 : Og p l e s m args below meth c Γ 7 1 21 σ none ρ 54 [(0, va_rf (some t)), (1, va_rf p1), (2, .int p2), (4, va_rf q3), (5, .int ((p2 - (hpI σ 40 t)) - 1))] [.int x7] σ := by
        refine k_istore cx [(6, .int x7), (0, va_rf (some t)), (1, va_rf p1), (2, .int p2), (4, va_rf q3), (5, .int ((p2 - (hpI σ 40 t)) - 1))] dX1_passOver_54 (by decide) (by simp [cat_rf, cat_i, cat_j]) ?_
        refine k_iload cx 5 dX1_passOver_56 rfl ?_
        refine k_aload cx 4 dX1_passOver_58 rfl ?_
        obtain ⟨a10, g11, h⟩ := bind_ok h
        refine q_getI cx fl_X1_158 g11 dX1_passOver_60 ?_
        obtain ⟨x12, hxx12, Hx12⟩ := sb_ok h
        have Kx12 : ∀ wx12 : Unit, .inr wx12 = x12 → Og p l e s m args below meth c Γ 7 1 21 σ none ρ 80 [(0, va_rf (some t)), (2, .int p2)] [] σ := by
          intro wx12 hw
          have h := sb_inr hw Hx12
          refine k_aload_n cx 0 dX1_passOver_80 rfl rfl ?_
          refine k_iload_n cx 1 dX1_passOver_81 rfl rfl ?_
          obtain ⟨q16, g17, h⟩ := bind_ok h
          refine k_callV cx iv_X1_210 (ci := 1) rfl (by decide) (w_X1_closePage (dn_some hk0).2 g17) hk0 (As := [.int p2]) rfl rfl ⟨Nat.le_of_ble_eq_true rfl, Nat.le_of_ble_eq_true rfl⟩ (by simp [cat_rf, cat_i, cat_j]) dX1_passOver_82 ?_
          refine k_goto cx 98 dX1_passOver_85 (by decide) ?_
          have h := Option.some.inj h
          exact k_vret cx hr hlk rfl (by rw [← h]) dX1_passOver_98
        have h := hxx12
        refine k_icmp_lt cx 80 dX1_passOver_63 (by decide) (fun c13 => ?_) (fun c13 => ?_)
        · have h := ite_t h c13
          refine k_sub [1, 3] rfl ?_
          exact Kx12 _ (Option.some.inj h)
        · have h := ite_f h c13
          refine k_iload cx 0 dX1_passOver_66 rfl ?_
          refine k_if_eq cx 88 dX1_passOver_68 (by decide) (fun c14 => ?_) (fun c14 => ?_)
          · have h := ite_t h c14
            refine k_aload_n cx 1 dX1_passOver_88 rfl rfl ?_
            refine k_dup cx (by simp [cat_rf, cat_i, cat_j]) dX1_passOver_89 ?_
            refine q_getI cx fl_X1_48 hk0 dX1_passOver_90 ?_
            refine k_iconst cx 1 dX1_passOver_93 (by decide) ?_
            refine k_iadd cx dX1_passOver_94 ?_
            refine q_putI cx pl_X1_48 hk0 dX1_passOver_95 ?_
            have h := Option.some.inj h
            have h := sb_ret h Hx12
            exact k_vret cx hr hlk rfl (by rw [← h]) dX1_passOver_98
          · have h := ite_f h c14
            refine k_iload cx 5 dX1_passOver_71 rfl ?_
            refine k_aload_n cx 2 dX1_passOver_73 rfl rfl ?_
            refine q_getI cx fl_X1_96 g2 dX1_passOver_74 ?_
            refine k_icmp_ge cx 88 dX1_passOver_77 (by decide) (fun c15 => ?_) (fun c15 => ?_)
            · have h := ite_t h c15
              refine k_aload_n cx 1 dX1_passOver_88 rfl rfl ?_
              refine k_dup cx (by simp [cat_rf, cat_i, cat_j]) dX1_passOver_89 ?_
              refine q_getI cx fl_X1_48 hk0 dX1_passOver_90 ?_
              refine k_iconst cx 1 dX1_passOver_93 (by decide) ?_
              refine k_iadd cx dX1_passOver_94 ?_
              refine q_putI cx pl_X1_48 hk0 dX1_passOver_95 ?_
              have h := Option.some.inj h
              have h := sb_ret h Hx12
              exact k_vret cx hr hlk rfl (by rw [← h]) dX1_passOver_98
            · have h := ite_f h c15
              refine k_sub [1, 3] rfl ?_
              exact Kx12 _ (Option.some.inj h)
      have h := hxx7
      refine k_icmp_gt cx 53 dX1_passOver_38 (by decide) (fun c8 => ?_) (fun c8 => ?_)
      · have h := ite_t h c8
        refine k_iconst cx 0 dX1_passOver_53 (by decide) ?_
        refine k_sub [2, 3, 4, 1, 0] rfl ?_
        obtain rfl := Option.some.inj h
        exact Kx7
      · have h := ite_f h c8
        refine k_aload_n cx 3 dX1_passOver_41 rfl rfl ?_
        refine q_getI cx fl_X1_96 g2 dX1_passOver_42 ?_
        refine k_iload_n cx 4 dX1_passOver_45 rfl rfl ?_
        refine k_icmp_gt cx 53 dX1_passOver_46 (by decide) (fun c9 => ?_) (fun c9 => ?_)
        · have h := ite_t h c9
          refine k_iconst cx 0 dX1_passOver_53 (by decide) ?_
          refine k_sub [2, 3, 4, 1, 0] rfl ?_
          obtain rfl := Option.some.inj h
          exact Kx7
        · have h := ite_f h c9
          refine k_iconst cx 1 dX1_passOver_49 (by decide) ?_
          refine k_goto cx 54 dX1_passOver_50 (by decide) ?_
          refine k_sub [2, 3, 4, 1, 0] rfl ?_
          obtain rfl := Option.some.inj h
          exact Kx7
set_option maxRecDepth 100000 in
set_option maxHeartbeats 4000000 in
theorem w_X4_init {Γ : GE} {σ : St} {t : Nat} {ρ : Unit} (hk : hpK σ t = 4) (h : f_X4_init σ t = some ρ) : Ct Γ yX4_init cX4_init 1 none 1 20 [va_rf (some t)] σ none σ := by
  refine ct_intro (own := RX4) (L0 := [(0, va_rf (some t))]) (by decide +kernel) rfl (by simp [lg_sl, cat_rf, cat_i, cat_j]) (by simp [lv_args, cat_rf, cat_i, cat_j]) ?_
  intro p l e s m args below meth c hr hlk hin cx
  have hk0 := dn_eq hk
  unfold f_X4_init at h
  refine k_aload_n cx 0 dX4_init_0 rfl rfl ?_
  refine k_objInit cx oi_X4_1 oi_i oi_c ⟨Nat.le_of_ble_eq_true rfl, Nat.le_of_ble_eq_true rfl⟩ (by simp [cat_rf, cat_i, cat_j]) dX4_init_1 ?_
  have h := Option.some.inj h
  exact k_vret cx hr hlk rfl rfl dX4_init_4
set_option maxRecDepth 100000 in
set_option maxHeartbeats 4000000 in
theorem w_X1_addPage {Γ : GE} {σ : St} {t : Nat} {p1 : Int32} {ρ : Option Nat × St} (hk : hpK σ t = 1) (h : f_X1_addPage σ t p1 = some ρ) : Ct Γ yX1_addPage cX1_addPage 3 (some (.object "PoemPages$Page")) 2 40 [va_rf (some t), .int p1] σ (some (va_rf ρ.1)) ρ.2 := by
  refine ct_intro (own := RX1) (L0 := [(0, va_rf (some t)), (1, .int p1)]) (by decide +kernel) rfl (by simp [lg_sl, cat_rf, cat_i, cat_j]) (by simp [lv_args, cat_rf, cat_i, cat_j]) ?_
  intro p l e s m args below meth c hr hlk hin cx
  have hk0 := dn_eq hk
  unfold f_X1_addPage at h
  refine k_aload_n cx 0 dX1_addPage_0 rfl rfl ?_
  refine q_getI cx fl_X1_42 hk0 dX1_addPage_1 ?_
  obtain ⟨x1, hxx1, Hx1⟩ := sb_ok h
  have Kx1 : ∀ wx1 : Unit, .inr wx1 = x1 → Og p l e s m args below meth c Γ 3 2 40 σ (some (va_rf ρ.1)) ρ.2 19 [] [] σ := by
    intro wx1 hw
    have h := sb_inr hw Hx1
    obtain ⟨σ29, g30, h⟩ := bind_ok h
    refine k_new cx nw_X1_29 g30 dX1_addPage_19 ?_
    refine k_dup cx (by simp [cat_rf, cat_i, cat_j]) dX1_addPage_22 ?_
    obtain ⟨a31, g32, h⟩ := bind_ok h
    obtain ⟨q33, g34, h⟩ := bind_ok h
    refine k_callIN cx iv_X1_245 (w_X4_init (dn_some g32).2 g34) (dn_some g32).1 (As := []) rfl rfl ⟨Nat.le_of_ble_eq_true rfl, Nat.le_of_ble_eq_true rfl⟩ (by simp [cat_rf, cat_i, cat_j]) dX1_addPage_23 ?_
    have h := Option.some.inj h
    exact k_aret cx hr hlk (by rw [← h]) (by rw [← h]) dX1_addPage_26
  have h := hxx1
  refine k_if_lt cx 19 dX1_addPage_4 (by decide) (fun c2 => ?_) (fun c2 => ?_)
  · have h := ite_t h c2
    refine k_sub [] rfl ?_
    exact Kx1 _ (Option.some.inj h)
  · have h := ite_f h c2
    refine k_aload_n cx 0 dX1_addPage_7 rfl rfl ?_
    refine q_getI cx fl_X1_42 hk0 dX1_addPage_8 ?_
    refine k_aload_n cx 0 dX1_addPage_11 rfl rfl ?_
    refine q_getR cx fl_X1_31 hk0 dX1_addPage_12 ?_
    obtain ⟨a3, g4, h⟩ := bind_ok h
    refine k_alen cx (by decide) g4 dX1_addPage_15 ?_
    refine k_icmp_lt cx 27 dX1_addPage_16 (by decide) (fun c5 => ?_) (fun c5 => ?_)
    · have h := ite_t h c5
      refine k_aload_n cx 0 dX1_addPage_27 rfl rfl ?_
      refine q_getR cx fl_X1_31 hk0 dX1_addPage_28 ?_
      refine k_aload_n cx 0 dX1_addPage_31 rfl rfl ?_
      refine q_getI cx fl_X1_42 hk0 dX1_addPage_32 ?_
      obtain ⟨j6, g7, h⟩ := bind_ok h
      refine k_aald cx (by decide) g4 g7 dX1_addPage_35 ?_
      refine k_astore_n cx (i := 2) [(2, va_rf (hpB σ a3 j6)), (0, va_rf (some t)), (1, .int p1)] dX1_addPage_36 rfl (by decide) (by simp [cat_rf, cat_i, cat_j]) ?_
      refine k_aload_n cx 0 dX1_addPage_37 rfl rfl ?_
      obtain ⟨x8, hxx8, h⟩ := bind_ok h
      have Kx8 : Og p l e s m args below meth c Γ 3 2 40 σ (some (va_rf ρ.1)) ρ.2 59 [(0, va_rf (some t)), (1, .int p1), (2, va_rf x8.1)] [] x8.2 := by
        refine k_aload_n cx 0 dX1_addPage_59 rfl rfl ?_
        refine k_dup cx (by simp [cat_rf, cat_i, cat_j]) dX1_addPage_60 ?_
        obtain ⟨a25, g26, h⟩ := bind_ok h
        refine q_getI cx fl_X1_42 g26 dX1_addPage_61 ?_
        refine k_iconst cx 1 dX1_addPage_64 (by decide) ?_
        refine k_iadd cx dX1_addPage_65 ?_
        refine q_putI cx pl_X1_42 g26 dX1_addPage_66 ?_
        refine k_aload_n cx 2 dX1_addPage_69 rfl rfl ?_
        refine k_iload_n cx 1 dX1_addPage_70 rfl rfl ?_
        obtain ⟨a27, g28, h⟩ := bind_ok h
        refine q_putI cx pl_X1_51 g28 dX1_addPage_71 ?_
        refine k_aload_n cx 2 dX1_addPage_74 rfl rfl ?_
        refine k_iconst cx 0 dX1_addPage_75 (by decide) ?_
        refine q_putI cx pl_X1_54 g28 dX1_addPage_76 ?_
        refine k_aload_n cx 2 dX1_addPage_79 rfl rfl ?_
        refine k_iconst cx 0 dX1_addPage_80 (by decide) ?_
        refine q_putI cx pl_X1_227 g28 dX1_addPage_81 ?_
        refine k_aload_n cx 2 dX1_addPage_84 rfl rfl ?_
        refine k_iconst cx 0 dX1_addPage_85 (by decide) ?_
        refine q_putI cx pl_X1_230 g28 dX1_addPage_86 ?_
        refine k_aload_n cx 2 dX1_addPage_89 rfl rfl ?_
        refine k_iconst cx 0 dX1_addPage_90 (by decide) ?_
        refine q_putZ cx pl_X1_75 g28 gz_0 dX1_addPage_91 ?_
        refine k_aload_n cx 2 dX1_addPage_94 rfl rfl ?_
        have h := Option.some.inj h
        have h := sb_ret h Hx1
        exact k_aret cx hr hlk (by rw [← h]) (by rw [← h]) dX1_addPage_95
      have h := hxx8
      refine k_ifnonnull cx 59 dX1_addPage_38 (by decide) (fun c9 => ?_) (fun a24 c9 => ?_)
      · have h := ite_t h c9
        obtain ⟨σ10, g11, h⟩ := bind_ok h
        refine k_new cx nw_X1_29 g11 dX1_addPage_41 ?_
        refine k_dup cx (by simp [cat_rf, cat_i, cat_j]) dX1_addPage_44 ?_
        obtain ⟨a12, g13, h⟩ := bind_ok h
        obtain ⟨q14, g15, h⟩ := bind_ok h
        refine k_callIN cx iv_X1_245 (w_X4_init (dn_some g13).2 g15) (dn_some g13).1 (As := []) rfl rfl ⟨Nat.le_of_ble_eq_true rfl, Nat.le_of_ble_eq_true rfl⟩ (by simp [cat_rf, cat_i, cat_j]) dX1_addPage_45 ?_
        refine k_astore_n cx (i := 2) [(2, va_rf (some (hpN σ))), (0, va_rf (some t)), (1, .int p1)] dX1_addPage_48 rfl (by decide) (by simp [cat_rf, cat_i, cat_j]) ?_
        refine k_aload_n cx 1 dX1_addPage_49 rfl rfl ?_
        obtain ⟨a16, g17, h⟩ := bind_ok h
        refine q_getR cx fl_X1_31 g17 dX1_addPage_50 ?_
        refine k_aload_n cx 1 dX1_addPage_53 rfl rfl ?_
        refine q_getI cx fl_X1_42 g17 dX1_addPage_54 ?_
        refine k_aload_n cx 0 dX1_addPage_57 rfl rfl ?_
        obtain ⟨a18, g19, h⟩ := bind_ok h
        obtain ⟨j20, g21, h⟩ := bind_ok h
        obtain ⟨w22, g23, h⟩ := bind_ok h
        refine k_aast cx (by decide) g19 g21 g23 dX1_addPage_58 ?_
        refine k_sub [1, 2, 0] rfl ?_
        obtain rfl := Option.some.inj h
        exact Kx8
      · have h := ite_f h (ne_nn c9)
        refine k_sub [1, 2, 0] rfl ?_
        obtain rfl := Option.some.inj h
        exact Kx8
    · have h := ite_f h c5
      refine k_sub [] rfl ?_
      exact Kx1 _ (Option.some.inj h)
set_option maxRecDepth 100000 in
set_option maxHeartbeats 4000000 in
theorem w_X1_putRow {Γ : GE} {σ : St} {t : Nat} {p1 : Option Nat} {p2 : Int32} {p3 : Int32} {ρ : St} (hk : hpK σ t = 1) (h : f_X1_putRow σ t p1 p2 p3 = some ρ) : Ct Γ yX1_putRow cX1_putRow 5 none 3 62 [va_rf (some t), va_rf p1, .int p2, .int p3] σ none ρ := by
  refine ct_intro (own := RX1) (L0 := [(0, va_rf (some t)), (1, va_rf p1), (2, .int p2), (3, .int p3)]) (by decide +kernel) rfl (by simp [lg_sl, cat_rf, cat_i, cat_j]) (by simp [lv_args, cat_rf, cat_i, cat_j]) ?_
  intro p l e s m args below meth c hr hlk hin cx
  have hk0 := dn_eq hk
  unfold f_X1_putRow at h
  refine k_aload_n cx 0 dX1_putRow_0 rfl rfl ?_
  refine q_getI cx fl_X1_48 hk0 dX1_putRow_1 ?_
  refine k_iload_n cx 3 dX1_putRow_4 rfl rfl ?_
  obtain ⟨x1, hxx1, h⟩ := bind_ok h
  have Kx1 : Og p l e s m args below meth c Γ 5 3 62 σ none ρ 22 [(0, va_rf (some t)), (1, va_rf p1), (2, .int p2)] [va_rf x1] σ := by
    refine k_astore cx [(4, va_rf x1), (0, va_rf (some t)), (1, va_rf p1), (2, .int p2)] dX1_putRow_22 (by decide) (by simp [cat_rf, cat_i, cat_j]) ?_
    refine k_aload cx 0 dX1_putRow_24 rfl ?_
    obtain ⟨x5, hxx5, h⟩ := bind_ok h
    have Kx5 : Og p l e s m args below meth c Γ 5 3 62 σ none ρ 41 [(0, va_rf (some t)), (1, va_rf p1), (4, va_rf x5.1)] [] x5.2 := by
      refine k_aload_n cx 1 dX1_putRow_41 rfl rfl ?_
      refine k_aload_n cx 0 dX1_putRow_42 rfl rfl ?_
      obtain ⟨a12, g13, h⟩ := bind_ok h
      refine q_getI cx fl_X1_42 g13 dX1_putRow_43 ?_
      refine k_iconst cx 1 dX1_putRow_46 (by decide) ?_
      refine k_isub cx dX1_putRow_47 ?_
      obtain ⟨a14, g15, h⟩ := bind_ok h
      refine q_putI cx pl_X1_224 g15 dX1_putRow_48 ?_
      refine k_aload_n cx 1 dX1_putRow_51 rfl rfl ?_
      refine k_aload_n cx 0 dX1_putRow_52 rfl rfl ?_
      refine q_getI cx fl_X1_48 g13 dX1_putRow_53 ?_
      refine q_putI cx pl_X1_60 g15 dX1_putRow_56 ?_
      refine k_aload_n cx 0 dX1_putRow_59 rfl rfl ?_
      refine k_dup cx (by simp [cat_rf, cat_i, cat_j]) dX1_putRow_60 ?_
      refine q_getI cx fl_X1_48 g13 dX1_putRow_61 ?_
      refine k_iconst cx 1 dX1_putRow_64 (by decide) ?_
      refine k_iadd cx dX1_putRow_65 ?_
      refine q_putI cx pl_X1_48 g13 dX1_putRow_66 ?_
      refine k_aload cx 2 dX1_putRow_69 rfl ?_
      refine k_dup cx (by simp [cat_rf, cat_i, cat_j]) dX1_putRow_71 ?_
      obtain ⟨a16, g17, h⟩ := bind_ok h
      refine q_getI cx fl_X1_54 g17 dX1_putRow_72 ?_
      refine k_iconst cx 1 dX1_putRow_75 (by decide) ?_
      refine k_iadd cx dX1_putRow_76 ?_
      refine q_putI cx pl_X1_54 g17 dX1_putRow_77 ?_
      refine k_aload cx 2 dX1_putRow_80 rfl ?_
      refine k_aload_n cx 0 dX1_putRow_82 rfl rfl ?_
      refine q_getI cx fl_X1_48 g13 dX1_putRow_83 ?_
      refine q_putI cx pl_X1_227 g17 dX1_putRow_86 ?_
      refine k_aload cx 2 dX1_putRow_89 rfl ?_
      refine k_dup cx (by simp [cat_rf, cat_i, cat_j]) dX1_putRow_91 ?_
      refine q_getI cx fl_X1_230 g17 dX1_putRow_92 ?_
      refine k_aload_n cx 1 dX1_putRow_95 rfl rfl ?_
      refine q_getI cx fl_X1_214 g15 dX1_putRow_96 ?_
      obtain ⟨x18, hxx18, h⟩ := bind_ok h
      have Kx18 : Og p l e s m args below meth c Γ 5 3 62 σ none ρ 107 [] [.int x18, .int (hpI (stI (stI (stI (stI (stI x5.2 194 a14 ((hpI x5.2 38 a12) - 1)) 195 a14 (hpI (stI x5.2 194 a14 ((hpI x5.2 38 a12) - 1)) 40 a12)) 40 a12 ((hpI (stI (stI x5.2 194 a14 ((hpI x5.2 38 a12) - 1)) 195 a14 (hpI (stI x5.2 194 a14 ((hpI x5.2 38 a12) - 1)) 40 a12)) 40 a12) + 1)) 129 a16 ((hpI (stI (stI (stI x5.2 194 a14 ((hpI x5.2 38 a12) - 1)) 195 a14 (hpI (stI x5.2 194 a14 ((hpI x5.2 38 a12) - 1)) 40 a12)) 40 a12 ((hpI (stI (stI x5.2 194 a14 ((hpI x5.2 38 a12) - 1)) 195 a14 (hpI (stI x5.2 194 a14 ((hpI x5.2 38 a12) - 1)) 40 a12)) 40 a12) + 1)) 129 a16) + 1)) 130 a16 (hpI (stI (stI (stI (stI x5.2 194 a14 ((hpI x5.2 38 a12) - 1)) 195 a14 (hpI (stI x5.2 194 a14 ((hpI x5.2 38 a12) - 1)) 40 a12)) 40 a12 ((hpI (stI (stI x5.2 194 a14 ((hpI x5.2 38 a12) - 1)) 195 a14 (hpI (stI x5.2 194 a14 ((hpI x5.2 38 a12) - 1)) 40 a12)) 40 a12) + 1)) 129 a16 ((hpI (stI (stI (stI x5.2 194 a14 ((hpI x5.2 38 a12) - 1)) 195 a14 (hpI (stI x5.2 194 a14 ((hpI x5.2 38 a12) - 1)) 40 a12)) 40 a12 ((hpI (stI (stI x5.2 194 a14 ((hpI x5.2 38 a12) - 1)) 195 a14 (hpI (stI x5.2 194 a14 ((hpI x5.2 38 a12) - 1)) 40 a12)) 40 a12) + 1)) 129 a16) + 1)) 40 a12)) 131 a16), va_rf x5.1] (stI (stI (stI (stI (stI x5.2 194 a14 ((hpI x5.2 38 a12) - 1)) 195 a14 (hpI (stI x5.2 194 a14 ((hpI x5.2 38 a12) - 1)) 40 a12)) 40 a12 ((hpI (stI (stI x5.2 194 a14 ((hpI x5.2 38 a12) - 1)) 195 a14 (hpI (stI x5.2 194 a14 ((hpI x5.2 38 a12) - 1)) 40 a12)) 40 a12) + 1)) 129 a16 ((hpI (stI (stI (stI x5.2 194 a14 ((hpI x5.2 38 a12) - 1)) 195 a14 (hpI (stI x5.2 194 a14 ((hpI x5.2 38 a12) - 1)) 40 a12)) 40 a12 ((hpI (stI (stI x5.2 194 a14 ((hpI x5.2 38 a12) - 1)) 195 a14 (hpI (stI x5.2 194 a14 ((hpI x5.2 38 a12) - 1)) 40 a12)) 40 a12) + 1)) 129 a16) + 1)) 130 a16 (hpI (stI (stI (stI (stI x5.2 194 a14 ((hpI x5.2 38 a12) - 1)) 195 a14 (hpI (stI x5.2 194 a14 ((hpI x5.2 38 a12) - 1)) 40 a12)) 40 a12 ((hpI (stI (stI x5.2 194 a14 ((hpI x5.2 38 a12) - 1)) 195 a14 (hpI (stI x5.2 194 a14 ((hpI x5.2 38 a12) - 1)) 40 a12)) 40 a12) + 1)) 129 a16 ((hpI (stI (stI (stI x5.2 194 a14 ((hpI x5.2 38 a12) - 1)) 195 a14 (hpI (stI x5.2 194 a14 ((hpI x5.2 38 a12) - 1)) 40 a12)) 40 a12 ((hpI (stI (stI x5.2 194 a14 ((hpI x5.2 38 a12) - 1)) 195 a14 (hpI (stI x5.2 194 a14 ((hpI x5.2 38 a12) - 1)) 40 a12)) 40 a12) + 1)) 129 a16) + 1)) 40 a12)) := by
        obtain ⟨q20, g21, h⟩ := bind_ok h
        refine k_callSN cx iv_X1_67 (w_X10_oneIf g21) (As := [.int x18]) rfl rfl ⟨Nat.le_of_ble_eq_true rfl, Nat.le_of_ble_eq_true rfl⟩ (by simp [cat_rf, cat_i, cat_j]) dX1_putRow_107 ?_
        refine k_iadd cx dX1_putRow_110 ?_
        refine q_putI cx pl_X1_230 g17 dX1_putRow_111 ?_
        have h := Option.some.inj h
        exact k_vret cx hr hlk rfl (by rw [← h]) dX1_putRow_114
      have h := hxx18
      refine k_if_ne cx 106 dX1_putRow_99 (by decide) (fun c19 => ?_) (fun c19 => ?_)
      · have h := ite_t h c19
        refine k_iconst cx 0 dX1_putRow_106 (by decide) ?_
        refine k_sub [] rfl ?_
        obtain rfl := Option.some.inj h
        exact Kx18
      · have h := ite_f h c19
        refine k_iconst cx 1 dX1_putRow_102 (by decide) ?_
        refine k_goto cx 107 dX1_putRow_103 (by decide) ?_
        refine k_sub [] rfl ?_
        obtain rfl := Option.some.inj h
        exact Kx18
    have h := hxx5
    refine k_ifnonnull cx 41 dX1_putRow_26 (by decide) (fun c6 => ?_) (fun a11 c6 => ?_)
    · have h := ite_t h c6
      refine k_aload_n cx 1 dX1_putRow_29 rfl rfl ?_
      refine k_iload_n cx 3 dX1_putRow_30 rfl rfl ?_
      obtain ⟨q7, g8, h⟩ := bind_ok h
      refine k_callV cx iv_X1_221 (ci := 1) rfl (by decide) (w_X1_addPage (dn_some hk0).2 g8) hk0 (As := [.int p2]) rfl rfl ⟨Nat.le_of_ble_eq_true rfl, Nat.le_of_ble_eq_true rfl⟩ (by simp [cat_rf, cat_i, cat_j]) dX1_putRow_31 ?_
      refine k_astore cx [(4, va_rf q7.1), (0, va_rf (some t)), (1, va_rf p1), (2, .int p2)] dX1_putRow_34 (by decide) (by simp [cat_rf, cat_i, cat_j]) ?_
      refine k_aload_n cx 1 dX1_putRow_36 rfl rfl ?_
      refine k_iconst cx 0 dX1_putRow_37 (by decide) ?_
      obtain ⟨a9, g10, h⟩ := bind_ok h
      refine q_putI cx pl_X1_48 g10 dX1_putRow_38 ?_
      refine k_sub [1, 2, 0] rfl ?_
      obtain rfl := Option.some.inj h
      exact Kx5
    · have h := ite_f h (ne_nn c6)
      refine k_sub [1, 2, 0] rfl ?_
      obtain rfl := Option.some.inj h
      exact Kx5
  have h := hxx1
  refine k_icmp_ge cx 21 dX1_putRow_5 (by decide) (fun c2 => ?_) (fun c2 => ?_)
  · have h := ite_t h c2
    refine k_null cx dX1_putRow_21 ?_
    refine k_sub [0, 1, 2] rfl ?_
    obtain rfl := Option.some.inj h
    exact Kx1
  · have h := ite_f h c2
    refine k_aload_n cx 0 dX1_putRow_8 rfl rfl ?_
    refine k_aload_n cx 0 dX1_putRow_9 rfl rfl ?_
    refine q_getI cx fl_X1_42 hk0 dX1_putRow_10 ?_
    refine k_iconst cx 1 dX1_putRow_13 (by decide) ?_
    refine k_isub cx dX1_putRow_14 ?_
    obtain ⟨q3, g4, h⟩ := bind_ok h
    refine k_callV cx iv_X1_71 (ci := 1) rfl (by decide) (w_X1_pageAt (dn_some hk0).2 g4) hk0 (As := [.int ((hpI σ 38 t) - 1)]) rfl rfl ⟨Nat.le_of_ble_eq_true rfl, Nat.le_of_ble_eq_true rfl⟩ (by simp [cat_rf, cat_i, cat_j]) dX1_putRow_15 ?_
    refine k_goto cx 22 dX1_putRow_18 (by decide) ?_
    refine k_sub [0, 1, 2] rfl ?_
    obtain rfl := Option.some.inj h
    exact Kx1
set_option maxRecDepth 100000 in
set_option maxHeartbeats 4000000 in
theorem w_X1_putStanza {Γ : GE} {σ : St} {t : Nat} {p1 : Option Nat} {p2 : Int32} {ρ : St} (hk : hpK σ t = 1) (h : f_X1_putStanza σ t p1 p2 = some ρ) : Ct Γ yX1_putStanza cX1_putStanza 7 none 4 86 [va_rf (some t), va_rf p1, .int p2] σ none ρ := by
  refine ct_intro (own := RX1) (L0 := [(0, va_rf (some t)), (1, va_rf p1), (2, .int p2)]) (by decide +kernel) rfl (by simp [lg_sl, cat_rf, cat_i, cat_j]) (by simp [lv_args, cat_rf, cat_i, cat_j]) ?_
  intro p l e s m args below meth c hr hlk hin cx
  have hk0 := dn_eq hk
  unfold f_X1_putStanza at h
  refine k_aload_n cx 1 dX1_putStanza_0 rfl rfl ?_
  obtain ⟨a1, g2, h⟩ := bind_ok h
  refine q_getI cx fl_X1_95 g2 dX1_putStanza_1 ?_
  refine k_istore_n cx (i := 3) [(3, .int (hpI σ 225 a1)), (0, va_rf (some t)), (1, va_rf p1), (2, .int p2)] dX1_putStanza_4 rfl (by decide) (by simp [cat_rf, cat_i, cat_j]) ?_
  obtain ⟨x4, hxx4, h⟩ := bind_ok h
  have Kx4 : Og p l e s m args below meth c Γ 7 4 86 σ none ρ 111 [] [] x4 := by
    have h := Option.some.inj h
    exact k_vret cx hr hlk rfl (by rw [← h]) dX1_putStanza_111
  have KLx4 : ∀ (n : Nat) (v3_5 : Int32) (τ5 : St), LX1_putStanza_5 n t p1 p2 v3_5 τ5 = some x4 → Og p l e s m args below meth c Γ 7 4 86 σ none ρ 5 [(0, va_rf (some t)), (1, va_rf p1), (2, .int p2), (3, .int v3_5)] [] τ5 := by
    intro n
    induction n with
    | zero => intro _ _ h; cases (show (none : Option _) = some x4 from h)
    | succ n ihx4 =>
      intro v3_5 τ5 h
      rw [LX1_putStanza_5] at h
      refine k_iload_n cx 3 dX1_putStanza_5 rfl rfl ?_
      refine k_aload_n cx 1 dX1_putStanza_6 rfl rfl ?_
      obtain ⟨a5, g6, h⟩ := bind_ok h
      refine q_getI cx fl_X1_95 g6 dX1_putStanza_7 ?_
      refine k_aload_n cx 1 dX1_putStanza_10 rfl rfl ?_
      refine q_getI cx fl_X1_96 g6 dX1_putStanza_11 ?_
      refine k_iadd cx dX1_putStanza_14 ?_
      refine k_icmp_ge cx 111 dX1_putStanza_15 (by decide) (fun c7 => ?_) (fun c7 => ?_)
      · have h := ite_t h c7
        refine k_sub [] rfl ?_
        obtain rfl := Option.some.inj h
        exact Kx4
      · have h := ite_f h c7
        refine k_aload_n cx 0 dX1_putStanza_18 rfl rfl ?_
        refine k_iload_n cx 3 dX1_putStanza_19 rfl rfl ?_
        obtain ⟨a8, g9, h⟩ := bind_ok h
        obtain ⟨q10, g11, h⟩ := bind_ok h
        refine k_callV cx iv_X1_56 (ci := 1) rfl (by decide) (w_X1_rowAt (dn_some g9).2 g11) g9 (As := [.int v3_5]) rfl rfl ⟨Nat.le_of_ble_eq_true rfl, Nat.le_of_ble_eq_true rfl⟩ (by simp [cat_rf, cat_i, cat_j]) dX1_putStanza_20 ?_
        refine k_astore cx [(4, va_rf q10), (0, va_rf (some t)), (1, va_rf p1), (2, .int p2), (3, .int v3_5)] dX1_putStanza_23 (by decide) (by simp [cat_rf, cat_i, cat_j]) ?_
        refine k_aload cx 0 dX1_putStanza_25 rfl ?_
        obtain ⟨x12, hxx12, h⟩ := bind_ok h
        have Kx12 : Og p l e s m args below meth c Γ 7 4 86 σ none ρ 43 [(0, va_rf (some t)), (1, va_rf p1), (2, .int p2), (3, .int v3_5), (4, va_rf q10)] [va_rf x12] τ5 := by
          refine k_astore cx [(5, va_rf x12), (0, va_rf (some t)), (1, va_rf p1), (2, .int p2), (3, .int v3_5), (4, va_rf q10)] dX1_putStanza_43 (by decide) (by simp [cat_rf, cat_i, cat_j]) ?_
          refine k_aload cx 0 dX1_putStanza_45 rfl ?_
          obtain ⟨x19, hxx19, h⟩ := bind_ok h
          have Kx19 : Og p l e s m args below meth c Γ 7 4 86 σ none ρ 105 [(0, va_rf (some t)), (1, va_rf p1), (2, .int p2), (3, .int v3_5)] [] x19 := by
            refine k_iinc cx 3 [(3, .int (v3_5 + 1)), (0, va_rf (some t)), (1, va_rf p1), (2, .int p2)] (v3_5 + 1) dX1_putStanza_105 rfl rfl (by decide) (by simp [cat_rf, cat_i, cat_j]) ?_
            refine k_goto cx 5 dX1_putStanza_108 (by decide) ?_
            refine k_sub [1, 2, 3, 0] rfl ?_
            exact ihx4 _ _ h
          have h := hxx19
          refine k_ifnull cx 105 dX1_putStanza_47 (by decide) (fun c20 => ?_) (fun a37 c20 => ?_)
          · have h := ite_t h c20
            refine k_sub [1, 2, 3, 4] rfl ?_
            obtain rfl := Option.some.inj h
            exact Kx19
          · have h := ite_f h (ne_nn c20)
            refine k_aload cx 5 dX1_putStanza_50 rfl ?_
            obtain ⟨a21, g22, h⟩ := bind_ok h
            refine q_getI cx fl_X1_214 g22 dX1_putStanza_52 ?_
            obtain ⟨x23, hxx23, h⟩ := bind_ok h
            have Kx23 : Og p l e s m args below meth c Γ 7 4 86 σ none ρ 71 [(0, va_rf (some t)), (1, va_rf p1), (2, .int p2), (3, .int v3_5), (4, va_rf q10), (5, va_rf x12)] [.int x23] τ5 := by
              refine k_istore cx [(6, .int x23), (0, va_rf (some t)), (1, va_rf p1), (2, .int p2), (3, .int v3_5), (4, va_rf q10), (5, va_rf x12)] dX1_putStanza_71 (by decide) (by simp [cat_rf, cat_i, cat_j]) ?_
              refine k_iload cx 0 dX1_putStanza_73 rfl ?_
              obtain ⟨x26, hxx26, h⟩ := bind_ok h
              have Kx26 : Og p l e s m args below meth c Γ 7 4 86 σ none ρ 97 [(0, va_rf (some t)), (1, va_rf p1), (2, .int p2), (3, .int v3_5), (4, va_rf q10)] [] x26 := by
                refine k_aload_n cx 0 dX1_putStanza_97 rfl rfl ?_
                refine k_aload cx 4 dX1_putStanza_98 rfl ?_
                refine k_iload_n cx 3 dX1_putStanza_100 rfl rfl ?_
                refine k_iload_n cx 2 dX1_putStanza_101 rfl rfl ?_
                obtain ⟨a33, g34, h⟩ := bind_ok h
                obtain ⟨q35, g36, h⟩ := bind_ok h
                refine k_callV cx iv_X1_217 (ci := 1) rfl (by decide) (w_X1_putRow (dn_some g34).2 g36) g34 (As := [va_rf q10, .int v3_5, .int p2]) rfl rfl ⟨Nat.le_of_ble_eq_true rfl, Nat.le_of_ble_eq_true rfl⟩ (by simp [cat_rf, cat_i, cat_j]) dX1_putStanza_102 ?_
                refine k_sub [0, 1, 2, 3] rfl ?_
                obtain rfl := Option.some.inj h
                exact Kx19
              have h := hxx26
              refine k_if_eq cx 97 dX1_putStanza_75 (by decide) (fun c27 => ?_) (fun c27 => ?_)
              · have h := ite_t h c27
                refine k_sub [1, 2, 3, 4, 5] rfl ?_
                obtain rfl := Option.some.inj h
                exact Kx26
              · have h := ite_f h c27
                refine k_iload_n cx 3 dX1_putStanza_78 rfl rfl ?_
                refine k_aload_n cx 1 dX1_putStanza_79 rfl rfl ?_
                refine q_getI cx fl_X1_48 g9 dX1_putStanza_80 ?_
                refine k_isub cx dX1_putStanza_83 ?_
                refine k_aload cx 6 dX1_putStanza_84 rfl ?_
                obtain ⟨a28, g29, h⟩ := bind_ok h
                refine q_getI cx fl_X1_158 g29 dX1_putStanza_86 ?_
                refine k_icmp_ge cx 97 dX1_putStanza_89 (by decide) (fun c30 => ?_) (fun c30 => ?_)
                · have h := ite_t h c30
                  refine k_sub [1, 2, 3, 4, 5] rfl ?_
                  obtain rfl := Option.some.inj h
                  exact Kx26
                · have h := ite_f h c30
                  refine k_aload_n cx 1 dX1_putStanza_92 rfl rfl ?_
                  refine k_iload_n cx 3 dX1_putStanza_93 rfl rfl ?_
                  obtain ⟨q31, g32, h⟩ := bind_ok h
                  refine k_callV cx iv_X1_210 (ci := 1) rfl (by decide) (w_X1_closePage (dn_some g9).2 g32) g9 (As := [.int p2]) rfl rfl ⟨Nat.le_of_ble_eq_true rfl, Nat.le_of_ble_eq_true rfl⟩ (by simp [cat_rf, cat_i, cat_j]) dX1_putStanza_94 ?_
                  refine k_sub [1, 2, 3, 4, 5] rfl ?_
                  obtain rfl := Option.some.inj h
                  exact Kx26
            have h := hxx23
            refine k_if_ne cx 70 dX1_putStanza_55 (by decide) (fun c24 => ?_) (fun c24 => ?_)
            · have h := ite_t h c24
              refine k_iconst cx 0 dX1_putStanza_70 (by decide) ?_
              refine k_sub [1, 2, 3, 4, 5, 0] rfl ?_
              obtain rfl := Option.some.inj h
              exact Kx23
            · have h := ite_f h c24
              refine k_iload_n cx 4 dX1_putStanza_58 rfl rfl ?_
              refine k_aload_n cx 2 dX1_putStanza_59 rfl rfl ?_
              refine q_getI cx fl_X1_95 g6 dX1_putStanza_60 ?_
              refine k_icmp_le cx 70 dX1_putStanza_63 (by decide) (fun c25 => ?_) (fun c25 => ?_)
              · have h := ite_t h c25
                refine k_iconst cx 0 dX1_putStanza_70 (by decide) ?_
                refine k_sub [1, 2, 3, 4, 5, 0] rfl ?_
                obtain rfl := Option.some.inj h
                exact Kx23
              · have h := ite_f h c25
                refine k_iconst cx 1 dX1_putStanza_66 (by decide) ?_
                refine k_goto cx 71 dX1_putStanza_67 (by decide) ?_
                refine k_sub [1, 2, 3, 4, 5, 0] rfl ?_
                obtain rfl := Option.some.inj h
                exact Kx23
        have h := hxx12
        refine k_ifnonnull cx 34 dX1_putStanza_27 (by decide) (fun c13 => ?_) (fun a18 c13 => ?_)
        · have h := ite_t h c13
          refine k_null cx dX1_putStanza_30 ?_
          refine k_goto cx 43 dX1_putStanza_31 (by decide) ?_
          refine k_sub [1, 2, 3, 4, 0] rfl ?_
          obtain rfl := Option.some.inj h
          exact Kx12
        · have h := ite_f h (ne_nn c13)
          refine k_aload_n cx 1 dX1_putStanza_34 rfl rfl ?_
          refine k_aload cx 0 dX1_putStanza_35 rfl ?_
          obtain ⟨a14, g15, h⟩ := bind_ok h
          refine q_getI cx fl_X1_197 g15 dX1_putStanza_37 ?_
          obtain ⟨q16, g17, h⟩ := bind_ok h
          refine k_callV cx iv_X1_78 (ci := 1) rfl (by decide) (w_X1_spanAt (dn_some g9).2 g17) g9 (As := [.int (hpI τ5 192 a14)]) rfl rfl ⟨Nat.le_of_ble_eq_true rfl, Nat.le_of_ble_eq_true rfl⟩ (by simp [cat_rf, cat_i, cat_j]) dX1_putStanza_40 ?_
          refine k_sub [1, 2, 3, 4, 0] rfl ?_
          obtain rfl := Option.some.inj h
          exact Kx12
  refine k_sub [1, 2, 3, 0] rfl ?_
  exact KLx4 FU _ _ hxx4
set_option maxRecDepth 100000 in
set_option maxHeartbeats 4000000 in
theorem w_X1_beginsWithStanza {Γ : GE} {σ : St} {t : Nat} {p1 : Option Nat} {ρ : Int32} (hk : hpK σ t = 1) (h : f_X1_beginsWithStanza σ t p1 = some ρ) : Ct Γ yX1_beginsWithStanza cX1_beginsWithStanza 5 (some .boolean) 1 21 [va_rf (some t), va_rf p1] σ (some (.int ρ)) σ := by
  refine ct_intro (own := RX1) (L0 := [(0, va_rf (some t)), (1, va_rf p1)]) (by decide +kernel) rfl (by simp [lg_sl, cat_rf, cat_i, cat_j]) (by simp [lv_args, cat_rf, cat_i, cat_j]) ?_
  intro p l e s m args below meth c hr hlk hin cx
  have hk0 := dn_eq hk
  unfold f_X1_beginsWithStanza at h
  refine k_aload_n cx 1 dX1_beginsWithStanza_0 rfl rfl ?_
  refine k_ifnonnull cx 6 dX1_beginsWithStanza_1 (by decide) (fun c1 => ?_) (fun a25 c1 => ?_)
  · have h := ite_t h c1
    refine k_iconst cx 0 dX1_beginsWithStanza_4 (by decide) ?_
    have h := Option.some.inj h
    exact k_zret cx hr hlk gz_0 (by rw [← h]) rfl dX1_beginsWithStanza_5
  · have h := ite_f h (ne_nn c1)
    refine k_aload_n cx 0 dX1_beginsWithStanza_6 rfl rfl ?_
    refine k_aload_n cx 1 dX1_beginsWithStanza_7 rfl rfl ?_
    obtain ⟨a2, g3, h⟩ := bind_ok h
    refine q_getI cx fl_X1_51 g3 dX1_beginsWithStanza_8 ?_
    obtain ⟨q4, g5, h⟩ := bind_ok h
    refine k_callV cx iv_X1_56 (ci := 1) rfl (by decide) (w_X1_rowAt (dn_some hk0).2 g5) hk0 (As := [.int (hpI σ 128 a2)]) rfl rfl ⟨Nat.le_of_ble_eq_true rfl, Nat.le_of_ble_eq_true rfl⟩ (by simp [cat_rf, cat_i, cat_j]) dX1_beginsWithStanza_11 ?_
    refine k_astore_n cx (i := 2) [(2, va_rf q4), (0, va_rf (some t)), (1, va_rf p1)] dX1_beginsWithStanza_14 rfl (by decide) (by simp [cat_rf, cat_i, cat_j]) ?_
    refine k_aload_n cx 0 dX1_beginsWithStanza_15 rfl rfl ?_
    obtain ⟨x6, hxx6, h⟩ := bind_ok h
    have Kx6 : Og p l e s m args below meth c Γ 5 1 21 σ (some (.int ρ)) σ 31 [(0, va_rf (some t)), (1, va_rf p1)] [va_rf x6] σ := by
      refine k_astore_n cx (i := 3) [(3, va_rf x6), (0, va_rf (some t)), (1, va_rf p1)] dX1_beginsWithStanza_31 rfl (by decide) (by simp [cat_rf, cat_i, cat_j]) ?_
      refine k_aload_n cx 0 dX1_beginsWithStanza_32 rfl rfl ?_
      obtain ⟨x13, hxx13, h⟩ := bind_ok h
      have Kx13 : Og p l e s m args below meth c Γ 5 1 21 σ (some (.int ρ)) σ 48 [(1, va_rf p1)] [va_rf x13] σ := by
        refine k_astore cx [(4, va_rf x13), (1, va_rf p1)] dX1_beginsWithStanza_48 (by decide) (by simp [cat_rf, cat_i, cat_j]) ?_
        refine k_aload cx 0 dX1_beginsWithStanza_50 rfl ?_
        refine k_ifnull cx 71 dX1_beginsWithStanza_52 (by decide) (fun c20 => ?_) (fun a24 c20 => ?_)
        · have h := ite_t h c20
          refine k_iconst cx 0 dX1_beginsWithStanza_71 (by decide) ?_
          have h := Option.some.inj h
          exact k_zret cx hr hlk gz_0 (by rw [← h]) rfl dX1_beginsWithStanza_72
        · have h := ite_f h (ne_nn c20)
          refine k_aload cx 0 dX1_beginsWithStanza_55 rfl ?_
          obtain ⟨a21, g22, h⟩ := bind_ok h
          refine q_getI cx fl_X1_95 g22 dX1_beginsWithStanza_57 ?_
          refine k_aload_n cx 1 dX1_beginsWithStanza_60 rfl rfl ?_
          refine q_getI cx fl_X1_51 g3 dX1_beginsWithStanza_61 ?_
          refine k_icmp_ne cx 71 dX1_beginsWithStanza_64 (by decide) (fun c23 => ?_) (fun c23 => ?_)
          · have h := ite_t h c23
            refine k_iconst cx 0 dX1_beginsWithStanza_71 (by decide) ?_
            have h := Option.some.inj h
            exact k_zret cx hr hlk gz_0 (by rw [← h]) rfl dX1_beginsWithStanza_72
          · have h := ite_f h c23
            refine k_iconst cx 1 dX1_beginsWithStanza_67 (by decide) ?_
            refine k_goto cx 72 dX1_beginsWithStanza_68 (by decide) ?_
            have h := Option.some.inj h
            exact k_zret cx hr hlk gz_1 (by rw [← h]) rfl dX1_beginsWithStanza_72
      have h := hxx13
      refine k_ifnonnull cx 40 dX1_beginsWithStanza_33 (by decide) (fun c14 => ?_) (fun a19 c14 => ?_)
      · have h := ite_t h c14
        refine k_null cx dX1_beginsWithStanza_36 ?_
        refine k_goto cx 48 dX1_beginsWithStanza_37 (by decide) ?_
        refine k_sub [2] rfl ?_
        obtain rfl := Option.some.inj h
        exact Kx13
      · have h := ite_f h (ne_nn c14)
        refine k_aload_n cx 1 dX1_beginsWithStanza_40 rfl rfl ?_
        refine k_aload_n cx 0 dX1_beginsWithStanza_41 rfl rfl ?_
        obtain ⟨a15, g16, h⟩ := bind_ok h
        refine q_getI cx fl_X1_233 g16 dX1_beginsWithStanza_42 ?_
        obtain ⟨q17, g18, h⟩ := bind_ok h
        refine k_callV cx iv_X1_159 (ci := 1) rfl (by decide) (w_X1_stanzaAt (dn_some hk0).2 g18) hk0 (As := [.int (hpI σ 98 a15)]) rfl rfl ⟨Nat.le_of_ble_eq_true rfl, Nat.le_of_ble_eq_true rfl⟩ (by simp [cat_rf, cat_i, cat_j]) dX1_beginsWithStanza_45 ?_
        refine k_sub [2] rfl ?_
        obtain rfl := Option.some.inj h
        exact Kx13
    have h := hxx6
    refine k_ifnonnull cx 23 dX1_beginsWithStanza_16 (by decide) (fun c7 => ?_) (fun a12 c7 => ?_)
    · have h := ite_t h c7
      refine k_null cx dX1_beginsWithStanza_19 ?_
      refine k_goto cx 31 dX1_beginsWithStanza_20 (by decide) ?_
      refine k_sub [1, 2] rfl ?_
      obtain rfl := Option.some.inj h
      exact Kx6
    · have h := ite_f h (ne_nn c7)
      refine k_aload_n cx 1 dX1_beginsWithStanza_23 rfl rfl ?_
      refine k_aload_n cx 0 dX1_beginsWithStanza_24 rfl rfl ?_
      obtain ⟨a8, g9, h⟩ := bind_ok h
      refine q_getI cx fl_X1_197 g9 dX1_beginsWithStanza_25 ?_
      obtain ⟨q10, g11, h⟩ := bind_ok h
      refine k_callV cx iv_X1_78 (ci := 1) rfl (by decide) (w_X1_spanAt (dn_some hk0).2 g11) hk0 (As := [.int (hpI σ 192 a8)]) rfl rfl ⟨Nat.le_of_ble_eq_true rfl, Nat.le_of_ble_eq_true rfl⟩ (by simp [cat_rf, cat_i, cat_j]) dX1_beginsWithStanza_28 ?_
      refine k_sub [1, 2] rfl ?_
      obtain rfl := Option.some.inj h
      exact Kx6
set_option maxRecDepth 100000 in
set_option maxHeartbeats 4000000 in
theorem w_X1_putOnPages {Γ : GE} {σ : St} {t : Nat} {p1 : Int32} {p2 : Int32} {ρ : St} (hk : hpK σ t = 1) (h : f_X1_putOnPages σ t p1 p2 = some ρ) : Ct Γ yX1_putOnPages cX1_putOnPages 5 none 5 112 [va_rf (some t), .int p1, .int p2] σ none ρ := by
  refine ct_intro (own := RX1) (L0 := [(0, va_rf (some t)), (1, .int p1), (2, .int p2)]) (by decide +kernel) rfl (by simp [lg_sl, cat_rf, cat_i, cat_j]) (by simp [lv_args, cat_rf, cat_i, cat_j]) ?_
  intro p l e s m args below meth c hr hlk hin cx
  have hk0 := dn_eq hk
  unfold f_X1_putOnPages at h
  refine k_aload_n cx 0 dX1_putOnPages_0 rfl rfl ?_
  refine k_iconst cx 0 dX1_putOnPages_1 (by decide) ?_
  refine q_putI cx pl_X1_42 hk0 dX1_putOnPages_2 ?_
  refine k_aload_n cx 0 dX1_putOnPages_5 rfl rfl ?_
  refine k_iconst cx 0 dX1_putOnPages_6 (by decide) ?_
  refine q_putI cx pl_X1_48 hk0 dX1_putOnPages_7 ?_
  refine k_iconst cx 0 dX1_putOnPages_10 (by decide) ?_
  refine k_istore_n cx (i := 3) [(3, .int 0), (0, va_rf (some t)), (1, .int p1), (2, .int p2)] dX1_putOnPages_11 rfl (by decide) (by simp [cat_rf, cat_i, cat_j]) ?_
  obtain ⟨x2, hxx2, h⟩ := bind_ok h
  have Kx2 : Og p l e s m args below meth c Γ 5 5 112 σ none ρ 53 [(0, va_rf (some t))] [] x2 := by
    refine k_iconst cx 0 dX1_putOnPages_53 (by decide) ?_
    refine k_istore_n cx (i := 3) [(3, .int 0), (0, va_rf (some t))] dX1_putOnPages_54 rfl (by decide) (by simp [cat_rf, cat_i, cat_j]) ?_
    obtain ⟨x18, hxx18, h⟩ := bind_ok h
    have Kx18 : Og p l e s m args below meth c Γ 5 5 112 σ none ρ 97 [] [] x18 := by
      have h := Option.some.inj h
      exact k_vret cx hr hlk rfl (by rw [← h]) dX1_putOnPages_97
    have KLx18 : ∀ (n : Nat) (v3_55 : Int32) (τ55 : St), LX1_putOnPages_55 n t v3_55 τ55 = some x18 → Og p l e s m args below meth c Γ 5 5 112 σ none ρ 55 [(0, va_rf (some t)), (3, .int v3_55)] [] τ55 := by
      intro n
      induction n with
      | zero => intro _ _ h; cases (show (none : Option _) = some x18 from h)
      | succ n ihx18 =>
        intro v3_55 τ55 h
        rw [LX1_putOnPages_55] at h
        refine k_iload_n cx 1 dX1_putOnPages_55 rfl rfl ?_
        refine k_aload_n cx 0 dX1_putOnPages_56 rfl rfl ?_
        obtain ⟨a19, g20, h⟩ := bind_ok h
        refine q_getI cx fl_X1_42 g20 dX1_putOnPages_57 ?_
        refine k_icmp_ge cx 97 dX1_putOnPages_60 (by decide) (fun c21 => ?_) (fun c21 => ?_)
        · have h := ite_t h c21
          refine k_sub [] rfl ?_
          obtain rfl := Option.some.inj h
          exact Kx18
        · have h := ite_f h c21
          refine k_aload_n cx 0 dX1_putOnPages_63 rfl rfl ?_
          refine k_iload_n cx 1 dX1_putOnPages_64 rfl rfl ?_
          obtain ⟨q22, g23, h⟩ := bind_ok h
          refine k_callV cx iv_X1_71 (ci := 1) rfl (by decide) (w_X1_pageAt (dn_some g20).2 g23) g20 (As := [.int v3_55]) rfl rfl ⟨Nat.le_of_ble_eq_true rfl, Nat.le_of_ble_eq_true rfl⟩ (by simp [cat_rf, cat_i, cat_j]) dX1_putOnPages_65 ?_
          refine k_astore cx [(4, va_rf q22), (0, va_rf (some t)), (3, .int v3_55)] dX1_putOnPages_68 (by decide) (by simp [cat_rf, cat_i, cat_j]) ?_
          refine k_aload cx 0 dX1_putOnPages_70 rfl ?_
          obtain ⟨x24, hxx24, h⟩ := bind_ok h
          have Kx24 : Og p l e s m args below meth c Γ 5 5 112 σ none ρ 91 [(0, va_rf (some t)), (3, .int v3_55)] [] x24 := by
            refine k_iinc cx 1 [(3, .int (v3_55 + 1)), (0, va_rf (some t))] (v3_55 + 1) dX1_putOnPages_91 rfl rfl (by decide) (by simp [cat_rf, cat_i, cat_j]) ?_
            refine k_goto cx 55 dX1_putOnPages_94 (by decide) ?_
            refine k_sub [1, 0] rfl ?_
            exact ihx18 _ _ h
          have h := hxx24
          refine k_ifnull cx 91 dX1_putOnPages_72 (by decide) (fun c25 => ?_) (fun a34 c25 => ?_)
          · have h := ite_t h c25
            refine k_sub [1, 2] rfl ?_
            obtain rfl := Option.some.inj h
            exact Kx24
          · have h := ite_f h (ne_nn c25)
            refine k_aload cx 0 dX1_putOnPages_75 rfl ?_
            refine k_aload_n cx 1 dX1_putOnPages_77 rfl rfl ?_
            refine k_aload_n cx 1 dX1_putOnPages_78 rfl rfl ?_
            refine k_iload_n cx 2 dX1_putOnPages_79 rfl rfl ?_
            refine k_iconst cx 1 dX1_putOnPages_80 (by decide) ?_
            refine k_iadd cx dX1_putOnPages_81 ?_
            obtain ⟨q26, g27, h⟩ := bind_ok h
            refine k_callV cx iv_X1_71 (ci := 1) rfl (by decide) (w_X1_pageAt (dn_some g20).2 g27) g20 (As := [.int (v3_55 + 1)]) rfl rfl ⟨Nat.le_of_ble_eq_true rfl, Nat.le_of_ble_eq_true rfl⟩ (by simp [cat_rf, cat_i, cat_j]) dX1_putOnPages_82 ?_
            obtain ⟨q28, g29, h⟩ := bind_ok h
            refine k_callV cx iv_X1_170 (ci := 1) rfl (by decide) (w_X1_beginsWithStanza (dn_some g20).2 g29) g20 (As := [va_rf q26]) rfl rfl ⟨Nat.le_of_ble_eq_true rfl, Nat.le_of_ble_eq_true rfl⟩ (by simp [cat_rf, cat_i, cat_j]) dX1_putOnPages_85 ?_
            obtain ⟨a30, g31, h⟩ := bind_ok h
            obtain ⟨z32, g33, h⟩ := bind_ok h
            refine q_putZ cx pl_X1_75 g31 g33 dX1_putOnPages_88 ?_
            refine k_sub [1, 2] rfl ?_
            obtain rfl := Option.some.inj h
            exact Kx24
    refine k_sub [1, 0] rfl ?_
    exact KLx18 FU _ _ hxx18
  have KLx2 : ∀ (n : Nat) (v3_12 : Int32) (τ12 : St), LX1_putOnPages_12 n t p1 p2 v3_12 τ12 = some x2 → Og p l e s m args below meth c Γ 5 5 112 σ none ρ 12 [(0, va_rf (some t)), (1, .int p1), (2, .int p2), (3, .int v3_12)] [] τ12 := by
    intro n
    induction n with
    | zero => intro _ _ h; cases (show (none : Option _) = some x2 from h)
    | succ n ihx2 =>
      intro v3_12 τ12 h
      rw [LX1_putOnPages_12] at h
      refine k_iload_n cx 3 dX1_putOnPages_12 rfl rfl ?_
      refine k_aload_n cx 0 dX1_putOnPages_13 rfl rfl ?_
      obtain ⟨a3, g4, h⟩ := bind_ok h
      refine q_getI cx fl_X1_39 g4 dX1_putOnPages_14 ?_
      refine k_icmp_ge cx 53 dX1_putOnPages_17 (by decide) (fun c5 => ?_) (fun c5 => ?_)
      · have h := ite_t h c5
        refine k_sub [0] rfl ?_
        obtain rfl := Option.some.inj h
        exact Kx2
      · have h := ite_f h c5
        refine k_aload_n cx 0 dX1_putOnPages_20 rfl rfl ?_
        refine k_iload_n cx 3 dX1_putOnPages_21 rfl rfl ?_
        obtain ⟨q6, g7, h⟩ := bind_ok h
        refine k_callV cx iv_X1_159 (ci := 1) rfl (by decide) (w_X1_stanzaAt (dn_some g4).2 g7) g4 (As := [.int v3_12]) rfl rfl ⟨Nat.le_of_ble_eq_true rfl, Nat.le_of_ble_eq_true rfl⟩ (by simp [cat_rf, cat_i, cat_j]) dX1_putOnPages_22 ?_
        refine k_astore cx [(4, va_rf q6), (0, va_rf (some t)), (1, .int p1), (2, .int p2), (3, .int v3_12)] dX1_putOnPages_25 (by decide) (by simp [cat_rf, cat_i, cat_j]) ?_
        refine k_aload cx 0 dX1_putOnPages_27 rfl ?_
        obtain ⟨x8, hxx8, h⟩ := bind_ok h
        have Kx8 : Og p l e s m args below meth c Γ 5 5 112 σ none ρ 47 [(0, va_rf (some t)), (1, .int p1), (2, .int p2), (3, .int v3_12)] [] x8 := by
          refine k_iinc cx 3 [(3, .int (v3_12 + 1)), (0, va_rf (some t)), (1, .int p1), (2, .int p2)] (v3_12 + 1) dX1_putOnPages_47 rfl rfl (by decide) (by simp [cat_rf, cat_i, cat_j]) ?_
          refine k_goto cx 12 dX1_putOnPages_50 (by decide) ?_
          refine k_sub [1, 2, 3, 0] rfl ?_
          exact ihx2 _ _ h
        have h := hxx8
        refine k_ifnull cx 47 dX1_putOnPages_29 (by decide) (fun c9 => ?_) (fun a16 c9 => ?_)
        · have h := ite_t h c9
          refine k_sub [1, 2, 3, 4] rfl ?_
          obtain rfl := Option.some.inj h
          exact Kx8
        · have h := ite_f h (ne_nn c9)
          refine k_aload_n cx 1 dX1_putOnPages_32 rfl rfl ?_
          refine k_aload cx 0 dX1_putOnPages_33 rfl ?_
          refine k_iload_n cx 2 dX1_putOnPages_35 rfl rfl ?_
          refine k_iload_n cx 3 dX1_putOnPages_36 rfl rfl ?_
          obtain ⟨q10, g11, h⟩ := bind_ok h
          refine k_callV cx iv_X1_162 (ci := 1) rfl (by decide) (w_X1_passOver (dn_some g4).2 g11) g4 (As := [va_rf q6, .int p1, .int p2]) rfl rfl ⟨Nat.le_of_ble_eq_true rfl, Nat.le_of_ble_eq_true rfl⟩ (by simp [cat_rf, cat_i, cat_j]) dX1_putOnPages_37 ?_
          refine k_aload_n cx 1 dX1_putOnPages_40 rfl rfl ?_
          refine k_aload cx 0 dX1_putOnPages_41 rfl ?_
          refine k_iload_n cx 2 dX1_putOnPages_43 rfl rfl ?_
          obtain ⟨a12, g13, h⟩ := bind_ok h
          obtain ⟨q14, g15, h⟩ := bind_ok h
          refine k_callV cx iv_X1_166 (ci := 1) rfl (by decide) (w_X1_putStanza (dn_some g13).2 g15) g13 (As := [va_rf q6, .int p1]) rfl rfl ⟨Nat.le_of_ble_eq_true rfl, Nat.le_of_ble_eq_true rfl⟩ (by simp [cat_rf, cat_i, cat_j]) dX1_putOnPages_44 ?_
          refine k_sub [1, 2, 3, 4] rfl ?_
          obtain rfl := Option.some.inj h
          exact Kx8
  refine k_sub [1, 2, 3, 0] rfl ?_
  exact KLx2 FU _ _ hxx2
set_option maxRecDepth 100000 in
set_option maxHeartbeats 4000000 in
theorem w_X2_init {Γ : GE} {σ : St} {t : Nat} {p1 : Option Nat} {p2 : Int32} {p3 : Int32} {p4 : Int32} {ρ : St} (hk : hpK σ t = 2) (h : f_X2_init σ t p1 p2 p3 p4 = some ρ) : Ct Γ yX2_init cX2_init 5 none 1 20 [va_rf (some t), va_rf p1, .int p2, .int p3, .int p4] σ none ρ := by
  refine ct_intro (own := RX2) (L0 := [(0, va_rf (some t)), (1, va_rf p1), (2, .int p2), (3, .int p3), (4, .int p4)]) (by decide +kernel) rfl (by simp [lg_sl, cat_rf, cat_i, cat_j]) (by simp [lv_args, cat_rf, cat_i, cat_j]) ?_
  intro p l e s m args below meth c hr hlk hin cx
  have hk0 := dn_eq hk
  unfold f_X2_init at h
  refine k_aload_n cx 0 dX2_init_0 rfl rfl ?_
  refine k_objInit cx oi_X2_1 oi_i oi_c ⟨Nat.le_of_ble_eq_true rfl, Nat.le_of_ble_eq_true rfl⟩ (by simp [cat_rf, cat_i, cat_j]) dX2_init_1 ?_
  refine k_aload_n cx 0 dX2_init_4 rfl rfl ?_
  refine k_aload_n cx 1 dX2_init_5 rfl rfl ?_
  refine q_putRF cx pl_X2_7 hin hk0 dX2_init_6 ?_
  refine k_aload_n cx 0 dX2_init_9 rfl rfl ?_
  refine k_iload_n cx 2 dX2_init_10 rfl rfl ?_
  refine q_putIF cx pl_X2_13 hin hk0 dX2_init_11 ?_
  refine k_aload_n cx 0 dX2_init_14 rfl rfl ?_
  refine k_iload_n cx 3 dX2_init_15 rfl rfl ?_
  obtain ⟨z1, g2, h⟩ := bind_ok h
  refine q_putZF cx pl_X2_17 hin hk0 g2 dX2_init_16 ?_
  refine k_aload_n cx 0 dX2_init_19 rfl rfl ?_
  refine k_iload cx 4 dX2_init_20 rfl ?_
  obtain ⟨z3, g4, h⟩ := bind_ok h
  refine q_putZF cx pl_X2_21 hin hk0 g4 dX2_init_22 ?_
  have h := Option.some.inj h
  exact k_vret cx hr hlk rfl (by rw [← h]) dX2_init_25
set_option maxRecDepth 100000 in
set_option maxHeartbeats 4000000 in
theorem w_X5_changeSetting {Γ : GE} {σ : St} {t : Nat} {p1 : Int32} {p2 : Int32} {ρ : St} (hk : hpK σ t = 5) (h : f_X5_changeSetting σ t p1 p2 = some ρ) : Ct Γ yX5_changeSetting cX5_changeSetting 3 none 0 0 [va_rf (some t), .int p1, .int p2] σ none ρ := by
  refine ct_intro (own := RX5) (L0 := [(0, va_rf (some t)), (1, .int p1), (2, .int p2)]) (by decide +kernel) rfl (by simp [lg_sl, cat_rf, cat_i, cat_j]) (by simp [lv_args, cat_rf, cat_i, cat_j]) ?_
  intro p l e s m args below meth c hr hlk hin cx
  have hk0 := dn_eq hk
  unfold f_X5_changeSetting at h
  refine k_iload_n cx 1 dX5_changeSetting_0 rfl rfl ?_
  refine k_if_lt cx 20 dX5_changeSetting_1 (by decide) (fun c1 => ?_) (fun c1 => ?_)
  · have h := ite_t h c1
    have h := Option.some.inj h
    exact k_vret cx hr hlk rfl (by rw [← h]) dX5_changeSetting_20
  · have h := ite_f h c1
    refine k_iload_n cx 1 dX5_changeSetting_4 rfl rfl ?_
    refine k_aload_n cx 0 dX5_changeSetting_5 rfl rfl ?_
    refine q_getR cx fl_X5_17 hk0 dX5_changeSetting_6 ?_
    obtain ⟨a2, g3, h⟩ := bind_ok h
    refine k_alenA cx g3 dX5_changeSetting_9 ?_
    refine k_icmp_ge cx 20 dX5_changeSetting_10 (by decide) (fun c4 => ?_) (fun c4 => ?_)
    · have h := ite_t h c4
      have h := Option.some.inj h
      exact k_vret cx hr hlk rfl (by rw [← h]) dX5_changeSetting_20
    · have h := ite_f h c4
      refine k_aload_n cx 0 dX5_changeSetting_13 rfl rfl ?_
      refine q_getR cx fl_X5_17 hk0 dX5_changeSetting_14 ?_
      refine k_iload_n cx 1 dX5_changeSetting_17 rfl rfl ?_
      refine k_iload_n cx 2 dX5_changeSetting_18 rfl rfl ?_
      obtain ⟨a5, g6, h⟩ := bind_ok h
      obtain ⟨j7, g8, h⟩ := bind_ok h
      refine k_iast cx g6 g8 dX5_changeSetting_19 ?_
      have h := Option.some.inj h
      exact k_vret cx hr hlk rfl (by rw [← h]) dX5_changeSetting_20
set_option maxRecDepth 100000 in
set_option maxHeartbeats 4000000 in
theorem w_X5_exchange {Γ : GE} {σ : St} {t : Nat} {p1 : Int32} {p2 : Option Nat} {ρ : St} (hk : hpK σ t = 5) (h : f_X5_exchange σ t p1 p2 = some ρ) : Ct Γ yX5_exchange cX5_exchange 3 none 0 0 [va_rf (some t), .int p1, va_rf p2] σ none ρ := by
  refine ct_intro (own := RX5) (L0 := [(0, va_rf (some t)), (1, .int p1), (2, va_rf p2)]) (by decide +kernel) rfl (by simp [lg_sl, cat_rf, cat_i, cat_j]) (by simp [lv_args, cat_rf, cat_i, cat_j]) ?_
  intro p l e s m args below meth c hr hlk hin cx
  have hk0 := dn_eq hk
  unfold f_X5_exchange at h
  refine k_iload_n cx 1 dX5_exchange_0 rfl rfl ?_
  refine k_if_lt cx 28 dX5_exchange_1 (by decide) (fun c1 => ?_) (fun c1 => ?_)
  · have h := ite_t h c1
    have h := Option.some.inj h
    exact k_vret cx hr hlk rfl (by rw [← h]) dX5_exchange_28
  · have h := ite_f h c1
    refine k_iload_n cx 1 dX5_exchange_4 rfl rfl ?_
    refine k_aload_n cx 0 dX5_exchange_5 rfl rfl ?_
    refine q_getI cx fl_X5_21 hk0 dX5_exchange_6 ?_
    refine k_icmp_ge cx 28 dX5_exchange_9 (by decide) (fun c2 => ?_) (fun c2 => ?_)
    · have h := ite_t h c2
      have h := Option.some.inj h
      exact k_vret cx hr hlk rfl (by rw [← h]) dX5_exchange_28
    · have h := ite_f h c2
      refine k_iload_n cx 1 dX5_exchange_12 rfl rfl ?_
      refine k_aload_n cx 0 dX5_exchange_13 rfl rfl ?_
      refine q_getR cx fl_X5_11 hk0 dX5_exchange_14 ?_
      obtain ⟨a3, g4, h⟩ := bind_ok h
      refine k_alen cx (by decide) g4 dX5_exchange_17 ?_
      refine k_icmp_ge cx 28 dX5_exchange_18 (by decide) (fun c5 => ?_) (fun c5 => ?_)
      · have h := ite_t h c5
        have h := Option.some.inj h
        exact k_vret cx hr hlk rfl (by rw [← h]) dX5_exchange_28
      · have h := ite_f h c5
        refine k_aload_n cx 0 dX5_exchange_21 rfl rfl ?_
        refine q_getR cx fl_X5_11 hk0 dX5_exchange_22 ?_
        refine k_iload_n cx 1 dX5_exchange_25 rfl rfl ?_
        refine k_aload_n cx 2 dX5_exchange_26 rfl rfl ?_
        obtain ⟨j6, g7, h⟩ := bind_ok h
        obtain ⟨w8, g9, h⟩ := bind_ok h
        refine k_aast cx (by decide) g4 g7 g9 dX5_exchange_27 ?_
        have h := Option.some.inj h
        exact k_vret cx hr hlk rfl (by rw [← h]) dX5_exchange_28
set_option maxRecDepth 100000 in
set_option maxHeartbeats 4000000 in
theorem w_X5_putIn {Γ : GE} {σ : St} {t : Nat} {p1 : Int32} {p2 : Option Nat} {ρ : St} (hk : hpK σ t = 5) (h : f_X5_putIn σ t p1 p2 = some ρ) : Ct Γ yX5_putIn cX5_putIn 4 none 0 0 [va_rf (some t), .int p1, va_rf p2] σ none ρ := by
  refine ct_intro (own := RX5) (L0 := [(0, va_rf (some t)), (1, .int p1), (2, va_rf p2)]) (by decide +kernel) rfl (by simp [lg_sl, cat_rf, cat_i, cat_j]) (by simp [lv_args, cat_rf, cat_i, cat_j]) ?_
  intro p l e s m args below meth c hr hlk hin cx
  have hk0 := dn_eq hk
  unfold f_X5_putIn at h
  refine k_iload_n cx 1 dX5_putIn_0 rfl rfl ?_
  refine k_if_lt cx 31 dX5_putIn_1 (by decide) (fun c1 => ?_) (fun c1 => ?_)
  · have h := ite_t h c1
    have h := Option.some.inj h
    exact k_vret cx hr hlk rfl (by rw [← h]) dX5_putIn_31
  · have h := ite_f h c1
    refine k_iload_n cx 1 dX5_putIn_4 rfl rfl ?_
    refine k_aload_n cx 0 dX5_putIn_5 rfl rfl ?_
    refine q_getI cx fl_X5_21 hk0 dX5_putIn_6 ?_
    refine k_icmp_gt cx 31 dX5_putIn_9 (by decide) (fun c2 => ?_) (fun c2 => ?_)
    · have h := ite_t h c2
      have h := Option.some.inj h
      exact k_vret cx hr hlk rfl (by rw [← h]) dX5_putIn_31
    · have h := ite_f h c2
      refine k_aload_n cx 0 dX5_putIn_12 rfl rfl ?_
      refine q_getI cx fl_X5_21 hk0 dX5_putIn_13 ?_
      refine k_if_lt cx 31 dX5_putIn_16 (by decide) (fun c3 => ?_) (fun c3 => ?_)
      · have h := ite_t h c3
        have h := Option.some.inj h
        exact k_vret cx hr hlk rfl (by rw [← h]) dX5_putIn_31
      · have h := ite_f h c3
        refine k_aload_n cx 0 dX5_putIn_19 rfl rfl ?_
        refine q_getI cx fl_X5_21 hk0 dX5_putIn_20 ?_
        refine k_aload_n cx 0 dX5_putIn_23 rfl rfl ?_
        refine q_getR cx fl_X5_11 hk0 dX5_putIn_24 ?_
        obtain ⟨a4, g5, h⟩ := bind_ok h
        refine k_alen cx (by decide) g5 dX5_putIn_27 ?_
        refine k_icmp_lt cx 32 dX5_putIn_28 (by decide) (fun c6 => ?_) (fun c6 => ?_)
        · have h := ite_t h c6
          refine k_aload_n cx 0 dX5_putIn_32 rfl rfl ?_
          refine q_getI cx fl_X5_21 hk0 dX5_putIn_33 ?_
          refine k_istore_n cx (i := 3) [(3, .int (hpI σ 162 t)), (0, va_rf (some t)), (1, .int p1), (2, va_rf p2)] dX5_putIn_36 rfl (by decide) (by simp [cat_rf, cat_i, cat_j]) ?_
          obtain ⟨x8, hxx8, h⟩ := bind_ok h
          have Kx8 : Og p l e s m args below meth c Γ 4 0 0 σ none ρ 62 [(0, va_rf (some t)), (1, .int p1), (2, va_rf p2)] [] x8 := by
            refine k_aload_n cx 0 dX5_putIn_62 rfl rfl ?_
            obtain ⟨a20, g21, h⟩ := bind_ok h
            refine q_getR cx fl_X5_11 g21 dX5_putIn_63 ?_
            refine k_iload_n cx 1 dX5_putIn_66 rfl rfl ?_
            refine k_aload_n cx 2 dX5_putIn_67 rfl rfl ?_
            obtain ⟨a22, g23, h⟩ := bind_ok h
            obtain ⟨j24, g25, h⟩ := bind_ok h
            obtain ⟨w26, g27, h⟩ := bind_ok h
            refine k_aast cx (by decide) g23 g25 g27 dX5_putIn_68 ?_
            refine k_aload_n cx 0 dX5_putIn_69 rfl rfl ?_
            refine k_dup cx (by simp [cat_rf, cat_i, cat_j]) dX5_putIn_70 ?_
            refine q_getI cx fl_X5_21 g21 dX5_putIn_71 ?_
            refine k_iconst cx 1 dX5_putIn_74 (by decide) ?_
            refine k_iadd cx dX5_putIn_75 ?_
            refine q_putI cx pl_X5_21 g21 dX5_putIn_76 ?_
            have h := Option.some.inj h
            exact k_vret cx hr hlk rfl (by rw [← h]) dX5_putIn_79
          have KLx8 : ∀ (n : Nat) (v3_37 : Int32) (τ37 : St), LX5_putIn_37 n t p1 p2 v3_37 τ37 = some x8 → Og p l e s m args below meth c Γ 4 0 0 σ none ρ 37 [(0, va_rf (some t)), (1, .int p1), (2, va_rf p2), (3, .int v3_37)] [] τ37 := by
            intro n
            induction n with
            | zero => intro _ _ h; cases (show (none : Option _) = some x8 from h)
            | succ n ihx8 =>
              intro v3_37 τ37 h
              rw [LX5_putIn_37] at h
              refine k_iload_n cx 3 dX5_putIn_37 rfl rfl ?_
              refine k_iload_n cx 1 dX5_putIn_38 rfl rfl ?_
              refine k_icmp_le cx 62 dX5_putIn_39 (by decide) (fun c9 => ?_) (fun c9 => ?_)
              · have h := ite_t h c9
                refine k_sub [0, 1, 2] rfl ?_
                obtain rfl := Option.some.inj h
                exact Kx8
              · have h := ite_f h c9
                refine k_aload_n cx 0 dX5_putIn_42 rfl rfl ?_
                obtain ⟨a10, g11, h⟩ := bind_ok h
                refine q_getR cx fl_X5_11 g11 dX5_putIn_43 ?_
                refine k_iload_n cx 3 dX5_putIn_46 rfl rfl ?_
                refine k_aload_n cx 0 dX5_putIn_47 rfl rfl ?_
                refine q_getR cx fl_X5_11 g11 dX5_putIn_48 ?_
                refine k_iload_n cx 3 dX5_putIn_51 rfl rfl ?_
                refine k_iconst cx 1 dX5_putIn_52 (by decide) ?_
                refine k_isub cx dX5_putIn_53 ?_
                obtain ⟨a12, g13, h⟩ := bind_ok h
                obtain ⟨j14, g15, h⟩ := bind_ok h
                refine k_aald cx (by decide) g13 g15 dX5_putIn_54 ?_
                obtain ⟨j16, g17, h⟩ := bind_ok h
                obtain ⟨w18, g19, h⟩ := bind_ok h
                refine k_aast cx (by decide) g13 g17 g19 dX5_putIn_55 ?_
                refine k_iinc cx 3 [(3, .int (v3_37 + (-1))), (0, va_rf (some t)), (1, .int p1), (2, va_rf p2)] (v3_37 + (-1)) dX5_putIn_56 rfl rfl (by decide) (by simp [cat_rf, cat_i, cat_j]) ?_
                refine k_goto cx 37 dX5_putIn_59 (by decide) ?_
                refine k_sub [1, 2, 3, 0] rfl ?_
                exact ihx8 _ _ h
          refine k_sub [1, 2, 3, 0] rfl ?_
          exact KLx8 FU _ _ hxx8
        · have h := ite_f h c6
          have h := Option.some.inj h
          exact k_vret cx hr hlk rfl (by rw [← h]) dX5_putIn_31
set_option maxRecDepth 100000 in
set_option maxHeartbeats 4000000 in
theorem w_X5_takeOut {Γ : GE} {σ : St} {t : Nat} {p1 : Int32} {ρ : St} (hk : hpK σ t = 5) (h : f_X5_takeOut σ t p1 = some ρ) : Ct Γ yX5_takeOut cX5_takeOut 3 none 0 0 [va_rf (some t), .int p1] σ none ρ := by
  refine ct_intro (own := RX5) (L0 := [(0, va_rf (some t)), (1, .int p1)]) (by decide +kernel) rfl (by simp [lg_sl, cat_rf, cat_i, cat_j]) (by simp [lv_args, cat_rf, cat_i, cat_j]) ?_
  intro p l e s m args below meth c hr hlk hin cx
  have hk0 := dn_eq hk
  unfold f_X5_takeOut at h
  refine k_iload_n cx 1 dX5_takeOut_0 rfl rfl ?_
  refine k_if_lt cx 24 dX5_takeOut_1 (by decide) (fun c1 => ?_) (fun c1 => ?_)
  · have h := ite_t h c1
    have h := Option.some.inj h
    exact k_vret cx hr hlk rfl (by rw [← h]) dX5_takeOut_24
  · have h := ite_f h c1
    refine k_iload_n cx 1 dX5_takeOut_4 rfl rfl ?_
    refine k_aload_n cx 0 dX5_takeOut_5 rfl rfl ?_
    refine q_getI cx fl_X5_21 hk0 dX5_takeOut_6 ?_
    refine k_icmp_ge cx 24 dX5_takeOut_9 (by decide) (fun c2 => ?_) (fun c2 => ?_)
    · have h := ite_t h c2
      have h := Option.some.inj h
      exact k_vret cx hr hlk rfl (by rw [← h]) dX5_takeOut_24
    · have h := ite_f h c2
      refine k_aload_n cx 0 dX5_takeOut_12 rfl rfl ?_
      refine q_getI cx fl_X5_21 hk0 dX5_takeOut_13 ?_
      refine k_aload_n cx 0 dX5_takeOut_16 rfl rfl ?_
      refine q_getR cx fl_X5_11 hk0 dX5_takeOut_17 ?_
      obtain ⟨a3, g4, h⟩ := bind_ok h
      refine k_alen cx (by decide) g4 dX5_takeOut_20 ?_
      refine k_icmp_le cx 25 dX5_takeOut_21 (by decide) (fun c5 => ?_) (fun c5 => ?_)
      · have h := ite_t h c5
        refine k_aload_n cx 0 dX5_takeOut_25 rfl rfl ?_
        refine k_dup cx (by simp [cat_rf, cat_i, cat_j]) dX5_takeOut_26 ?_
        refine q_getI cx fl_X5_21 hk0 dX5_takeOut_27 ?_
        refine k_iconst cx 1 dX5_takeOut_30 (by decide) ?_
        refine k_isub cx dX5_takeOut_31 ?_
        refine q_putI cx pl_X5_21 hk0 dX5_takeOut_32 ?_
        refine k_iload_n cx 1 dX5_takeOut_35 rfl rfl ?_
        refine k_istore_n cx (i := 2) [(2, .int p1), (0, va_rf (some t)), (1, .int p1)] dX5_takeOut_36 rfl (by decide) (by simp [cat_rf, cat_i, cat_j]) ?_
        obtain ⟨x7, hxx7, h⟩ := bind_ok h
        have Kx7 : Og p l e s m args below meth c Γ 3 0 0 σ none ρ 65 [(0, va_rf (some t))] [] x7 := by
          refine k_aload_n cx 0 dX5_takeOut_65 rfl rfl ?_
          obtain ⟨a19, g20, h⟩ := bind_ok h
          refine q_getR cx fl_X5_11 g20 dX5_takeOut_66 ?_
          refine k_aload_n cx 0 dX5_takeOut_69 rfl rfl ?_
          refine q_getI cx fl_X5_21 g20 dX5_takeOut_70 ?_
          refine k_null cx dX5_takeOut_73 ?_
          obtain ⟨a21, g22, h⟩ := bind_ok h
          obtain ⟨j23, g24, h⟩ := bind_ok h
          obtain ⟨w25, g26, h⟩ := bind_ok h
          refine k_aast cx (by decide) g22 g24 g26 dX5_takeOut_74 ?_
          have h := Option.some.inj h
          exact k_vret cx hr hlk rfl (by rw [← h]) dX5_takeOut_75
        have KLx7 : ∀ (n : Nat) (v2_37 : Int32) (τ37 : St), LX5_takeOut_37 n t v2_37 τ37 = some x7 → Og p l e s m args below meth c Γ 3 0 0 σ none ρ 37 [(0, va_rf (some t)), (2, .int v2_37)] [] τ37 := by
          intro n
          induction n with
          | zero => intro _ _ h; cases (show (none : Option _) = some x7 from h)
          | succ n ihx7 =>
            intro v2_37 τ37 h
            rw [LX5_takeOut_37] at h
            refine k_iload_n cx 1 dX5_takeOut_37 rfl rfl ?_
            refine k_aload_n cx 0 dX5_takeOut_38 rfl rfl ?_
            obtain ⟨a8, g9, h⟩ := bind_ok h
            refine q_getI cx fl_X5_21 g9 dX5_takeOut_39 ?_
            refine k_icmp_ge cx 65 dX5_takeOut_42 (by decide) (fun c10 => ?_) (fun c10 => ?_)
            · have h := ite_t h c10
              refine k_sub [0] rfl ?_
              obtain rfl := Option.some.inj h
              exact Kx7
            · have h := ite_f h c10
              refine k_aload_n cx 0 dX5_takeOut_45 rfl rfl ?_
              refine q_getR cx fl_X5_11 g9 dX5_takeOut_46 ?_
              refine k_iload_n cx 1 dX5_takeOut_49 rfl rfl ?_
              refine k_aload_n cx 0 dX5_takeOut_50 rfl rfl ?_
              refine q_getR cx fl_X5_11 g9 dX5_takeOut_51 ?_
              refine k_iload_n cx 1 dX5_takeOut_54 rfl rfl ?_
              refine k_iconst cx 1 dX5_takeOut_55 (by decide) ?_
              refine k_iadd cx dX5_takeOut_56 ?_
              obtain ⟨a11, g12, h⟩ := bind_ok h
              obtain ⟨j13, g14, h⟩ := bind_ok h
              refine k_aald cx (by decide) g12 g14 dX5_takeOut_57 ?_
              obtain ⟨j15, g16, h⟩ := bind_ok h
              obtain ⟨w17, g18, h⟩ := bind_ok h
              refine k_aast cx (by decide) g12 g16 g18 dX5_takeOut_58 ?_
              refine k_iinc cx 1 [(2, .int (v2_37 + 1)), (0, va_rf (some t))] (v2_37 + 1) dX5_takeOut_59 rfl rfl (by decide) (by simp [cat_rf, cat_i, cat_j]) ?_
              refine k_goto cx 37 dX5_takeOut_62 (by decide) ?_
              refine k_sub [1, 0] rfl ?_
              exact ihx7 _ _ h
        refine k_sub [1, 0] rfl ?_
        exact KLx7 FU _ _ hxx7
      · have h := ite_f h c5
        have h := Option.some.inj h
        exact k_vret cx hr hlk rfl (by rw [← h]) dX5_takeOut_24
set_option maxRecDepth 100000 in
set_option maxHeartbeats 4000000 in
theorem w_X8_init {Γ : GE} {σ : St} {t : Nat} {ρ : St} (hk : hpK σ t = 8) (h : f_X8_init σ t = some ρ) : Ct Γ yX8_init cX8_init 1 none 1 20 [va_rf (some t)] σ none ρ := by
  refine ct_intro (own := RX8) (L0 := [(0, va_rf (some t))]) (by decide +kernel) rfl (by simp [lg_sl, cat_rf, cat_i, cat_j]) (by simp [lv_args, cat_rf, cat_i, cat_j]) ?_
  intro p l e s m args below meth c hr hlk hin cx
  have hk0 := dn_eq hk
  unfold f_X8_init at h
  refine k_aload_n cx 0 dX8_init_0 rfl rfl ?_
  refine k_objInit cx oi_X8_3 oi_i oi_c ⟨Nat.le_of_ble_eq_true rfl, Nat.le_of_ble_eq_true rfl⟩ (by simp [cat_rf, cat_i, cat_j]) dX8_init_1 ?_
  refine k_aload_n cx 0 dX8_init_4 rfl rfl ?_
  refine k_bipush cx 80 dX8_init_5 (by decide) ?_
  obtain ⟨σ1, g2, h⟩ := bind_ok h
  refine k_newarr cx (k := 12) (by decide) g2 ac_byte dX8_init_7 ?_
  obtain ⟨a3, g4, h⟩ := bind_ok h
  refine q_putRF cx pl_X8_9 hin g4 dX8_init_9 ?_
  refine k_aload_n cx 0 dX8_init_12 rfl rfl ?_
  refine k_iconst cx 0 dX8_init_13 (by decide) ?_
  refine q_putI cx pl_X8_15 g4 dX8_init_14 ?_
  have h := Option.some.inj h
  exact k_vret cx hr hlk rfl (by rw [← h]) dX8_init_17
set_option maxRecDepth 100000 in
set_option maxHeartbeats 4000000 in
theorem w_X8_append {Γ : GE} {σ : St} {t : Nat} {p1 : Int32} {ρ : St} (hk : hpK σ t = 8) (h : f_X8_append σ t p1 = some ρ) : Ct Γ yX8_append cX8_append 2 none 0 0 [va_rf (some t), .int p1] σ none ρ := by
  refine ct_intro (own := RX8) (L0 := [(0, va_rf (some t)), (1, .int p1)]) (by decide +kernel) rfl (by simp [lg_sl, cat_rf, cat_i, cat_j]) (by simp [lv_args, cat_rf, cat_i, cat_j]) ?_
  intro p l e s m args below meth c hr hlk hin cx
  have hk0 := dn_eq hk
  unfold f_X8_append at h
  refine k_aload_n cx 0 dX8_append_0 rfl rfl ?_
  refine q_getI cx fl_X8_15 hk0 dX8_append_1 ?_
  refine k_if_lt cx 40 dX8_append_4 (by decide) (fun c1 => ?_) (fun c1 => ?_)
  · have h := ite_t h c1
    have h := Option.some.inj h
    exact k_vret cx hr hlk rfl (by rw [← h]) dX8_append_40
  · have h := ite_f h c1
    refine k_aload_n cx 0 dX8_append_7 rfl rfl ?_
    refine q_getI cx fl_X8_15 hk0 dX8_append_8 ?_
    refine k_aload_n cx 0 dX8_append_11 rfl rfl ?_
    refine q_getR cx fl_X8_9 hk0 dX8_append_12 ?_
    obtain ⟨a2, g3, h⟩ := bind_ok h
    refine k_alen cx (by decide) g3 dX8_append_15 ?_
    refine k_icmp_ge cx 40 dX8_append_16 (by decide) (fun c4 => ?_) (fun c4 => ?_)
    · have h := ite_t h c4
      have h := Option.some.inj h
      exact k_vret cx hr hlk rfl (by rw [← h]) dX8_append_40
    · have h := ite_f h c4
      refine k_aload_n cx 0 dX8_append_19 rfl rfl ?_
      refine q_getR cx fl_X8_9 hk0 dX8_append_20 ?_
      refine k_aload_n cx 0 dX8_append_23 rfl rfl ?_
      refine q_getI cx fl_X8_15 hk0 dX8_append_24 ?_
      refine k_iload_n cx 1 dX8_append_27 rfl rfl ?_
      refine k_i2b cx dX8_append_28 ?_
      obtain ⟨j5, g6, h⟩ := bind_ok h
      refine k_bast cx g3 g6 dX8_append_29 ?_
      refine k_aload_n cx 0 dX8_append_30 rfl rfl ?_
      refine k_dup cx (by simp [cat_rf, cat_i, cat_j]) dX8_append_31 ?_
      refine q_getI cx fl_X8_15 hk0 dX8_append_32 ?_
      refine k_iconst cx 1 dX8_append_35 (by decide) ?_
      refine k_iadd cx dX8_append_36 ?_
      refine q_putI cx pl_X8_15 hk0 dX8_append_37 ?_
      have h := Option.some.inj h
      exact k_vret cx hr hlk rfl (by rw [← h]) dX8_append_40
set_option maxRecDepth 100000 in
set_option maxHeartbeats 4000000 in
theorem w_X8_byteAt {Γ : GE} {σ : St} {t : Nat} {p1 : Int32} {ρ : Int32} (hk : hpK σ t = 8) (h : f_X8_byteAt σ t p1 = some ρ) : Ct Γ yX8_byteAt cX8_byteAt 2 (some .int) 0 0 [va_rf (some t), .int p1] σ (some (.int ρ)) σ := by
  refine ct_intro (own := RX8) (L0 := [(0, va_rf (some t)), (1, .int p1)]) (by decide +kernel) rfl (by simp [lg_sl, cat_rf, cat_i, cat_j]) (by simp [lv_args, cat_rf, cat_i, cat_j]) ?_
  intro p l e s m args below meth c hr hlk hin cx
  have hk0 := dn_eq hk
  unfold f_X8_byteAt at h
  refine k_iload_n cx 1 dX8_byteAt_0 rfl rfl ?_
  refine k_if_lt cx 21 dX8_byteAt_1 (by decide) (fun c1 => ?_) (fun c1 => ?_)
  · have h := ite_t h c1
    refine k_iconst cx (-1) dX8_byteAt_21 (by decide) ?_
    refine k_goto cx 31 dX8_byteAt_22 (by decide) ?_
    have h := Option.some.inj h
    exact k_iret cx hr hlk (by rw [← h]) rfl dX8_byteAt_31
  · have h := ite_f h c1
    refine k_iload_n cx 1 dX8_byteAt_4 rfl rfl ?_
    refine k_aload_n cx 0 dX8_byteAt_5 rfl rfl ?_
    refine q_getI cx fl_X8_15 hk0 dX8_byteAt_6 ?_
    refine k_icmp_ge cx 21 dX8_byteAt_9 (by decide) (fun c2 => ?_) (fun c2 => ?_)
    · have h := ite_t h c2
      refine k_iconst cx (-1) dX8_byteAt_21 (by decide) ?_
      refine k_goto cx 31 dX8_byteAt_22 (by decide) ?_
      have h := Option.some.inj h
      exact k_iret cx hr hlk (by rw [← h]) rfl dX8_byteAt_31
    · have h := ite_f h c2
      refine k_iload_n cx 1 dX8_byteAt_12 rfl rfl ?_
      refine k_aload_n cx 0 dX8_byteAt_13 rfl rfl ?_
      refine q_getR cx fl_X8_9 hk0 dX8_byteAt_14 ?_
      obtain ⟨a3, g4, h⟩ := bind_ok h
      refine k_alen cx (by decide) g4 dX8_byteAt_17 ?_
      refine k_icmp_lt cx 25 dX8_byteAt_18 (by decide) (fun c5 => ?_) (fun c5 => ?_)
      · have h := ite_t h c5
        refine k_aload_n cx 0 dX8_byteAt_25 rfl rfl ?_
        refine q_getR cx fl_X8_9 hk0 dX8_byteAt_26 ?_
        refine k_iload_n cx 1 dX8_byteAt_29 rfl rfl ?_
        obtain ⟨j6, g7, h⟩ := bind_ok h
        refine k_bald cx g4 g7 dX8_byteAt_30 ?_
        have h := Option.some.inj h
        exact k_iret cx hr hlk (by rw [← h]) rfl dX8_byteAt_31
      · have h := ite_f h c5
        refine k_iconst cx (-1) dX8_byteAt_21 (by decide) ?_
        refine k_goto cx 31 dX8_byteAt_22 (by decide) ?_
        have h := Option.some.inj h
        exact k_iret cx hr hlk (by rw [← h]) rfl dX8_byteAt_31
set_option maxRecDepth 100000 in
set_option maxHeartbeats 4000000 in
theorem w_X8_behindBlanks {Γ : GE} {σ : St} {t : Nat} {p1 : Int32} {ρ : Int32} (hk : hpK σ t = 8) (h : f_X8_behindBlanks σ t p1 = some ρ) : Ct Γ yX8_behindBlanks cX8_behindBlanks 3 (some .int) 1 21 [va_rf (some t), .int p1] σ (some (.int ρ)) σ := by
  refine ct_intro (own := RX8) (L0 := [(0, va_rf (some t)), (1, .int p1)]) (by decide +kernel) rfl (by simp [lg_sl, cat_rf, cat_i, cat_j]) (by simp [lv_args, cat_rf, cat_i, cat_j]) ?_
  intro p l e s m args below meth c hr hlk hin cx
  have hk0 := dn_eq hk
  unfold f_X8_behindBlanks at h
  refine k_iload_n cx 1 dX8_behindBlanks_0 rfl rfl ?_
  refine k_istore_n cx (i := 2) [(2, .int p1), (0, va_rf (some t)), (1, .int p1)] dX8_behindBlanks_1 rfl (by decide) (by simp [cat_rf, cat_i, cat_j]) ?_
  obtain ⟨x2, hxx2, h⟩ := bind_ok h
  have Kx2 : Og p l e s m args below meth c Γ 3 1 21 σ (some (.int ρ)) σ 26 [(2, .int x2)] [] σ := by
    refine k_iload_n cx 0 dX8_behindBlanks_26 rfl rfl ?_
    have h := Option.some.inj h
    exact k_iret cx hr hlk (by rw [← h]) rfl dX8_behindBlanks_27
  have KLx2 : ∀ (n : Nat) (v2_2 : Int32), LX8_behindBlanks_2 n σ t v2_2 = some x2 → Og p l e s m args below meth c Γ 3 1 21 σ (some (.int ρ)) σ 2 [(0, va_rf (some t)), (2, .int v2_2)] [] σ := by
    intro n
    induction n with
    | zero => intro _ h; cases (show (none : Option _) = some x2 from h)
    | succ n ihx2 =>
      intro v2_2 h
      rw [LX8_behindBlanks_2] at h
      refine k_iload_n cx 1 dX8_behindBlanks_2 rfl rfl ?_
      refine k_aload_n cx 0 dX8_behindBlanks_3 rfl rfl ?_
      refine q_getI cx fl_X8_15 hk0 dX8_behindBlanks_4 ?_
      refine k_icmp_ge cx 26 dX8_behindBlanks_7 (by decide) (fun c3 => ?_) (fun c3 => ?_)
      · have h := ite_t h c3
        refine k_sub [1] rfl ?_
        obtain rfl := Option.some.inj h
        exact Kx2
      · have h := ite_f h c3
        refine k_aload_n cx 0 dX8_behindBlanks_10 rfl rfl ?_
        refine k_iload_n cx 1 dX8_behindBlanks_11 rfl rfl ?_
        obtain ⟨q4, g5, h⟩ := bind_ok h
        refine k_callV cx iv_X8_23 (ci := 8) rfl (by decide) (w_X8_byteAt (dn_some hk0).2 g5) hk0 (As := [.int v2_2]) rfl rfl ⟨Nat.le_of_ble_eq_true rfl, Nat.le_of_ble_eq_true rfl⟩ (by simp [cat_rf, cat_i, cat_j]) dX8_behindBlanks_12 ?_
        refine k_bipush cx 32 dX8_behindBlanks_15 (by decide) ?_
        refine k_icmp_ne cx 26 dX8_behindBlanks_17 (by decide) (fun c6 => ?_) (fun c6 => ?_)
        · have h := ite_t h c6
          refine k_sub [1] rfl ?_
          obtain rfl := Option.some.inj h
          exact Kx2
        · have h := ite_f h c6
          refine k_iinc cx 1 [(2, .int (v2_2 + 1)), (0, va_rf (some t))] (v2_2 + 1) dX8_behindBlanks_20 rfl rfl (by decide) (by simp [cat_rf, cat_i, cat_j]) ?_
          refine k_goto cx 2 dX8_behindBlanks_23 (by decide) ?_
          refine k_sub [1, 0] rfl ?_
          exact ihx2 _ h
  refine k_sub [1, 0] rfl ?_
  exact KLx2 FU _ hxx2
set_option maxRecDepth 100000 in
set_option maxHeartbeats 4000000 in
theorem w_X10_isLetter {Γ : GE} {σ : St} {p1 : Int32} {ρ : Int32} (h : f_X10_isLetter σ p1 = some ρ) : Ct Γ yX10_isLetter cX10_isLetter 1 (some .boolean) 0 0 [.int p1] σ (some (.int ρ)) σ := by
  refine ct_intro (own := RX10) (L0 := [(0, .int p1)]) (by decide +kernel) rfl (by simp [lg_sl, cat_rf, cat_i, cat_j]) (by simp [lv_args, cat_rf, cat_i, cat_j]) ?_
  intro p l e s m args below meth c hr hlk hin cx
  unfold f_X10_isLetter at h
  refine k_iload_n cx 0 dX10_isLetter_0 rfl rfl ?_
  refine k_bipush cx 97 dX10_isLetter_1 (by decide) ?_
  refine k_icmp_lt cx 16 dX10_isLetter_3 (by decide) (fun c1 => ?_) (fun c1 => ?_)
  · have h := ite_t h c1
    refine k_iconst cx 0 dX10_isLetter_16 (by decide) ?_
    have h := Option.some.inj h
    exact k_zret cx hr hlk gz_0 (by rw [← h]) rfl dX10_isLetter_17
  · have h := ite_f h c1
    refine k_iload_n cx 0 dX10_isLetter_6 rfl rfl ?_
    refine k_bipush cx 122 dX10_isLetter_7 (by decide) ?_
    refine k_icmp_gt cx 16 dX10_isLetter_9 (by decide) (fun c2 => ?_) (fun c2 => ?_)
    · have h := ite_t h c2
      refine k_iconst cx 0 dX10_isLetter_16 (by decide) ?_
      have h := Option.some.inj h
      exact k_zret cx hr hlk gz_0 (by rw [← h]) rfl dX10_isLetter_17
    · have h := ite_f h c2
      refine k_iconst cx 1 dX10_isLetter_12 (by decide) ?_
      refine k_goto cx 17 dX10_isLetter_13 (by decide) ?_
      have h := Option.some.inj h
      exact k_zret cx hr hlk gz_1 (by rw [← h]) rfl dX10_isLetter_17
set_option maxRecDepth 100000 in
set_option maxHeartbeats 4000000 in
theorem w_X8_behindLetters {Γ : GE} {σ : St} {t : Nat} {p1 : Int32} {ρ : Int32} (hk : hpK σ t = 8) (h : f_X8_behindLetters σ t p1 = some ρ) : Ct Γ yX8_behindLetters cX8_behindLetters 3 (some .int) 1 21 [va_rf (some t), .int p1] σ (some (.int ρ)) σ := by
  refine ct_intro (own := RX8) (L0 := [(0, va_rf (some t)), (1, .int p1)]) (by decide +kernel) rfl (by simp [lg_sl, cat_rf, cat_i, cat_j]) (by simp [lv_args, cat_rf, cat_i, cat_j]) ?_
  intro p l e s m args below meth c hr hlk hin cx
  have hk0 := dn_eq hk
  unfold f_X8_behindLetters at h
  refine k_iload_n cx 1 dX8_behindLetters_0 rfl rfl ?_
  refine k_istore_n cx (i := 2) [(2, .int p1), (0, va_rf (some t)), (1, .int p1)] dX8_behindLetters_1 rfl (by decide) (by simp [cat_rf, cat_i, cat_j]) ?_
  obtain ⟨x2, hxx2, h⟩ := bind_ok h
  have Kx2 : Og p l e s m args below meth c Γ 3 1 21 σ (some (.int ρ)) σ 27 [(2, .int x2)] [] σ := by
    refine k_iload_n cx 0 dX8_behindLetters_27 rfl rfl ?_
    have h := Option.some.inj h
    exact k_iret cx hr hlk (by rw [← h]) rfl dX8_behindLetters_28
  have KLx2 : ∀ (n : Nat) (v2_2 : Int32), LX8_behindLetters_2 n σ t v2_2 = some x2 → Og p l e s m args below meth c Γ 3 1 21 σ (some (.int ρ)) σ 2 [(0, va_rf (some t)), (2, .int v2_2)] [] σ := by
    intro n
    induction n with
    | zero => intro _ h; cases (show (none : Option _) = some x2 from h)
    | succ n ihx2 =>
      intro v2_2 h
      rw [LX8_behindLetters_2] at h
      refine k_iload_n cx 1 dX8_behindLetters_2 rfl rfl ?_
      refine k_aload_n cx 0 dX8_behindLetters_3 rfl rfl ?_
      refine q_getI cx fl_X8_15 hk0 dX8_behindLetters_4 ?_
      refine k_icmp_ge cx 27 dX8_behindLetters_7 (by decide) (fun c3 => ?_) (fun c3 => ?_)
      · have h := ite_t h c3
        refine k_sub [1] rfl ?_
        obtain rfl := Option.some.inj h
        exact Kx2
      · have h := ite_f h c3
        refine k_aload_n cx 0 dX8_behindLetters_10 rfl rfl ?_
        refine k_iload_n cx 1 dX8_behindLetters_11 rfl rfl ?_
        obtain ⟨q4, g5, h⟩ := bind_ok h
        refine k_callV cx iv_X8_23 (ci := 8) rfl (by decide) (w_X8_byteAt (dn_some hk0).2 g5) hk0 (As := [.int v2_2]) rfl rfl ⟨Nat.le_of_ble_eq_true rfl, Nat.le_of_ble_eq_true rfl⟩ (by simp [cat_rf, cat_i, cat_j]) dX8_behindLetters_12 ?_
        obtain ⟨q6, g7, h⟩ := bind_ok h
        refine k_callSN cx iv_X8_26 (w_X10_isLetter g7) (As := [.int q4]) rfl rfl ⟨Nat.le_of_ble_eq_true rfl, Nat.le_of_ble_eq_true rfl⟩ (by simp [cat_rf, cat_i, cat_j]) dX8_behindLetters_15 ?_
        refine k_if_eq cx 27 dX8_behindLetters_18 (by decide) (fun c8 => ?_) (fun c8 => ?_)
        · have h := ite_t h c8
          refine k_sub [1] rfl ?_
          obtain rfl := Option.some.inj h
          exact Kx2
        · have h := ite_f h c8
          refine k_iinc cx 1 [(2, .int (v2_2 + 1)), (0, va_rf (some t))] (v2_2 + 1) dX8_behindLetters_21 rfl rfl (by decide) (by simp [cat_rf, cat_i, cat_j]) ?_
          refine k_goto cx 2 dX8_behindLetters_24 (by decide) ?_
          refine k_sub [1, 0] rfl ?_
          exact ihx2 _ h
  refine k_sub [1, 0] rfl ?_
  exact KLx2 FU _ hxx2
set_option maxRecDepth 100000 in
set_option maxHeartbeats 4000000 in
theorem w_X8_lineFault {Γ : GE} {σ : St} {t : Nat} {ρ : Int32} (hk : hpK σ t = 8) (h : f_X8_lineFault σ t = some ρ) : Ct Γ yX8_lineFault cX8_lineFault 4 (some .int) 2 43 [va_rf (some t)] σ (some (.int ρ)) σ := by
  refine ct_intro (own := RX8) (L0 := [(0, va_rf (some t))]) (by decide +kernel) rfl (by simp [lg_sl, cat_rf, cat_i, cat_j]) (by simp [lv_args, cat_rf, cat_i, cat_j]) ?_
  intro p l e s m args below meth c hr hlk hin cx
  have hk0 := dn_eq hk
  unfold f_X8_lineFault at h
  refine k_aload_n cx 0 dX8_lineFault_0 rfl rfl ?_
  refine k_iconst cx 0 dX8_lineFault_1 (by decide) ?_
  obtain ⟨q1, g2, h⟩ := bind_ok h
  refine k_callV cx iv_X8_19 (ci := 8) rfl (by decide) (w_X8_behindBlanks (dn_some hk0).2 g2) hk0 (As := [.int 0]) rfl rfl ⟨Nat.le_of_ble_eq_true rfl, Nat.le_of_ble_eq_true rfl⟩ (by simp [cat_rf, cat_i, cat_j]) dX8_lineFault_2 ?_
  refine k_istore_n cx (i := 1) [(1, .int q1), (0, va_rf (some t))] dX8_lineFault_5 rfl (by decide) (by simp [cat_rf, cat_i, cat_j]) ?_
  refine k_aload_n cx 1 dX8_lineFault_6 rfl rfl ?_
  refine k_iload_n cx 0 dX8_lineFault_7 rfl rfl ?_
  obtain ⟨q3, g4, h⟩ := bind_ok h
  refine k_callV cx iv_X8_23 (ci := 8) rfl (by decide) (w_X8_byteAt (dn_some hk0).2 g4) hk0 (As := [.int q1]) rfl rfl ⟨Nat.le_of_ble_eq_true rfl, Nat.le_of_ble_eq_true rfl⟩ (by simp [cat_rf, cat_i, cat_j]) dX8_lineFault_8 ?_
  refine k_bipush cx 126 dX8_lineFault_11 (by decide) ?_
  obtain ⟨x5, hxx5, h⟩ := bind_ok h
  have Kx5 : Og p l e s m args below meth c Γ 4 2 43 σ (some (.int ρ)) σ 24 [(0, va_rf (some t)), (1, .int x5)] [] σ := by
    refine k_iconst cx 0 dX8_lineFault_24 (by decide) ?_
    refine k_istore_n cx (i := 2) [(2, .int 0), (0, va_rf (some t)), (1, .int x5)] dX8_lineFault_25 rfl (by decide) (by simp [cat_rf, cat_i, cat_j]) ?_
    obtain ⟨x10, hxx10, h⟩ := bind_ok h
    have Kx10 : Og p l e s m args below meth c Γ 4 2 43 σ (some (.int ρ)) σ 55 [(0, va_rf (some t)), (1, .int x10)] [] σ := by
      refine k_aload_n cx 0 dX8_lineFault_55 rfl rfl ?_
      refine k_iload_n cx 1 dX8_lineFault_56 rfl rfl ?_
      obtain ⟨q17, g18, h⟩ := bind_ok h
      refine k_callV cx iv_X8_23 (ci := 8) rfl (by decide) (w_X8_byteAt (dn_some hk0).2 g18) hk0 (As := [.int x10]) rfl rfl ⟨Nat.le_of_ble_eq_true rfl, Nat.le_of_ble_eq_true rfl⟩ (by simp [cat_rf, cat_i, cat_j]) dX8_lineFault_57 ?_
      obtain ⟨q19, g20, h⟩ := bind_ok h
      refine k_callSN cx iv_X8_26 (w_X10_isLetter g20) (As := [.int q17]) rfl rfl ⟨Nat.le_of_ble_eq_true rfl, Nat.le_of_ble_eq_true rfl⟩ (by simp [cat_rf, cat_i, cat_j]) dX8_lineFault_60 ?_
      refine k_if_ne cx 68 dX8_lineFault_63 (by decide) (fun c21 => ?_) (fun c21 => ?_)
      · have h := ite_t h c21
        refine k_iconst cx 0 dX8_lineFault_68 (by decide) ?_
        refine k_istore_n cx (i := 2) [(2, .int 0), (0, va_rf (some t)), (1, .int x10)] dX8_lineFault_69 rfl (by decide) (by simp [cat_rf, cat_i, cat_j]) ?_
        obtain ⟨x23, hxx23, Hx23⟩ := sb_ok h
        have Kx23 : ∀ wx23, .inr wx23 = x23 → Og p l e s m args below meth c Γ 4 2 43 σ (some (.int ρ)) σ 118 [(0, va_rf (some t)), (1, .int wx23)] [] σ := by
          intro wx23 hw
          have h := sb_inr hw Hx23
          refine k_aload_n cx 0 dX8_lineFault_118 rfl rfl ?_
          refine k_iload_n cx 1 dX8_lineFault_119 rfl rfl ?_
          obtain ⟨q35, g36, h⟩ := bind_ok h
          refine k_callV cx iv_X8_23 (ci := 8) rfl (by decide) (w_X8_byteAt (dn_some hk0).2 g36) hk0 (As := [.int wx23]) rfl rfl ⟨Nat.le_of_ble_eq_true rfl, Nat.le_of_ble_eq_true rfl⟩ (by simp [cat_rf, cat_i, cat_j]) dX8_lineFault_120 ?_
          refine k_bipush cx 47 dX8_lineFault_123 (by decide) ?_
          obtain ⟨x37, hxx37, h⟩ := bind_ok h
          have Kx37 : Og p l e s m args below meth c Γ 4 2 43 σ (some (.int ρ)) σ 136 [(0, va_rf (some t)), (1, .int x37)] [] σ := by
            refine k_iload_n cx 1 dX8_lineFault_136 rfl rfl ?_
            refine k_aload_n cx 0 dX8_lineFault_137 rfl rfl ?_
            refine q_getI cx fl_X8_15 hk0 dX8_lineFault_138 ?_
            refine k_icmp_ge cx 148 dX8_lineFault_141 (by decide) (fun c41 => ?_) (fun c41 => ?_)
            · have h := ite_t h c41
              refine k_iconst cx (-1) dX8_lineFault_148 (by decide) ?_
              have h := Option.some.inj h
              exact k_iret cx hr hlk (by rw [← h]) rfl dX8_lineFault_149
            · have h := ite_f h c41
              refine k_iload_n cx 1 dX8_lineFault_144 rfl rfl ?_
              refine k_goto cx 149 dX8_lineFault_145 (by decide) ?_
              have h := Option.some.inj h
              exact k_iret cx hr hlk (by rw [← h]) rfl dX8_lineFault_149
          have h := hxx37
          refine k_icmp_ne cx 136 dX8_lineFault_125 (by decide) (fun c38 => ?_) (fun c38 => ?_)
          · have h := ite_t h c38
            obtain rfl := Option.some.inj h
            exact Kx37
          · have h := ite_f h c38
            refine k_aload_n cx 0 dX8_lineFault_128 rfl rfl ?_
            refine k_iload_n cx 1 dX8_lineFault_129 rfl rfl ?_
            refine k_iconst cx 1 dX8_lineFault_130 (by decide) ?_
            refine k_iadd cx dX8_lineFault_131 ?_
            obtain ⟨q39, g40, h⟩ := bind_ok h
            refine k_callV cx iv_X8_19 (ci := 8) rfl (by decide) (w_X8_behindBlanks (dn_some hk0).2 g40) hk0 (As := [.int (wx23 + 1)]) rfl rfl ⟨Nat.le_of_ble_eq_true rfl, Nat.le_of_ble_eq_true rfl⟩ (by simp [cat_rf, cat_i, cat_j]) dX8_lineFault_132 ?_
            refine k_istore_n cx (i := 1) [(1, .int q39), (0, va_rf (some t))] dX8_lineFault_135 rfl (by decide) (by simp [cat_rf, cat_i, cat_j]) ?_
            refine k_sub [1, 0] rfl ?_
            obtain rfl := Option.some.inj h
            exact Kx37
        have KLx23 : ∀ (n : Nat) (v1_70 : Int32) (v2_70 : Int32), LX8_lineFault_70 n σ t v1_70 v2_70 = some x23 → Og p l e s m args below meth c Γ 4 2 43 σ (some (.int ρ)) σ 70 [(0, va_rf (some t)), (1, .int v1_70), (2, .int v2_70)] [] σ := by
          intro n
          induction n with
          | zero => intro _ _ h; cases (show (none : Option _) = some x23 from h)
          | succ n ihx23 =>
            intro v1_70 v2_70 h
            rw [LX8_lineFault_70] at h
            refine k_iload_n cx 2 dX8_lineFault_70 rfl rfl ?_
            refine k_bipush cx 80 dX8_lineFault_71 (by decide) ?_
            refine k_icmp_ge cx 118 dX8_lineFault_73 (by decide) (fun c24 => ?_) (fun c24 => ?_)
            · have h := ite_t h c24
              refine k_sub [0, 1] rfl ?_
              exact Kx23 _ (Option.some.inj h)
            · have h := ite_f h c24
              refine k_aload_n cx 0 dX8_lineFault_76 rfl rfl ?_
              refine k_iload_n cx 1 dX8_lineFault_77 rfl rfl ?_
              obtain ⟨q25, g26, h⟩ := bind_ok h
              refine k_callV cx iv_X8_23 (ci := 8) rfl (by decide) (w_X8_byteAt (dn_some hk0).2 g26) hk0 (As := [.int v1_70]) rfl rfl ⟨Nat.le_of_ble_eq_true rfl, Nat.le_of_ble_eq_true rfl⟩ (by simp [cat_rf, cat_i, cat_j]) dX8_lineFault_78 ?_
              obtain ⟨q27, g28, h⟩ := bind_ok h
              refine k_callSN cx iv_X8_26 (w_X10_isLetter g28) (As := [.int q25]) rfl rfl ⟨Nat.le_of_ble_eq_true rfl, Nat.le_of_ble_eq_true rfl⟩ (by simp [cat_rf, cat_i, cat_j]) dX8_lineFault_81 ?_
              refine k_if_eq cx 118 dX8_lineFault_84 (by decide) (fun c29 => ?_) (fun c29 => ?_)
              · have h := ite_t h c29
                refine k_sub [0, 1] rfl ?_
                exact Kx23 _ (Option.some.inj h)
              · have h := ite_f h c29
                refine k_aload_n cx 0 dX8_lineFault_87 rfl rfl ?_
                refine k_iload_n cx 1 dX8_lineFault_88 rfl rfl ?_
                obtain ⟨q30, g31, h⟩ := bind_ok h
                refine k_callV cx iv_X8_30 (ci := 8) rfl (by decide) (w_X8_behindLetters (dn_some hk0).2 g31) hk0 (As := [.int v1_70]) rfl rfl ⟨Nat.le_of_ble_eq_true rfl, Nat.le_of_ble_eq_true rfl⟩ (by simp [cat_rf, cat_i, cat_j]) dX8_lineFault_89 ?_
                refine k_istore_n cx (i := 3) [(3, .int q30), (0, va_rf (some t)), (1, .int v1_70), (2, .int v2_70)] dX8_lineFault_92 rfl (by decide) (by simp [cat_rf, cat_i, cat_j]) ?_
                refine k_iload_n cx 0 dX8_lineFault_93 rfl rfl ?_
                refine k_iload_n cx 2 dX8_lineFault_94 rfl rfl ?_
                refine k_isub cx dX8_lineFault_95 ?_
                refine k_bipush cx 16 dX8_lineFault_96 (by decide) ?_
                refine k_icmp_le cx 106 dX8_lineFault_98 (by decide) (fun c32 => ?_) (fun c32 => ?_)
                · have h := ite_t h c32
                  refine k_aload_n cx 1 dX8_lineFault_106 rfl rfl ?_
                  refine k_iload_n cx 0 dX8_lineFault_107 rfl rfl ?_
                  obtain ⟨q33, g34, h⟩ := bind_ok h
                  refine k_callV cx iv_X8_19 (ci := 8) rfl (by decide) (w_X8_behindBlanks (dn_some hk0).2 g34) hk0 (As := [.int q30]) rfl rfl ⟨Nat.le_of_ble_eq_true rfl, Nat.le_of_ble_eq_true rfl⟩ (by simp [cat_rf, cat_i, cat_j]) dX8_lineFault_108 ?_
                  refine k_istore_n cx (i := 1) [(1, .int q33), (3, .int q30), (0, va_rf (some t)), (2, .int v2_70)] dX8_lineFault_111 rfl (by decide) (by simp [cat_rf, cat_i, cat_j]) ?_
                  refine k_iinc cx 3 [(2, .int (v2_70 + 1)), (1, .int q33), (3, .int q30), (0, va_rf (some t))] (v2_70 + 1) dX8_lineFault_112 rfl rfl (by decide) (by simp [cat_rf, cat_i, cat_j]) ?_
                  refine k_goto cx 70 dX8_lineFault_115 (by decide) ?_
                  refine k_sub [3, 1, 0] rfl ?_
                  exact ihx23 _ _ h
                · have h := ite_f h c32
                  refine k_iload_n cx 2 dX8_lineFault_101 rfl rfl ?_
                  refine k_bipush cx 16 dX8_lineFault_102 (by decide) ?_
                  refine k_iadd cx dX8_lineFault_104 ?_
                  have h := Option.some.inj h
                  have h := sb_ret h Hx23
                  exact k_iret cx hr hlk (by rw [← h]) rfl dX8_lineFault_105
        refine k_sub [1, 2, 0] rfl ?_
        exact KLx23 FU _ _ hxx23
      · have h := ite_f h c21
        refine k_iload_n cx 1 dX8_lineFault_66 rfl rfl ?_
        have h := Option.some.inj h
        exact k_iret cx hr hlk (by rw [← h]) rfl dX8_lineFault_67
    have KLx10 : ∀ (n : Nat) (v1_26 : Int32) (v2_26 : Int32), LX8_lineFault_26 n σ t v1_26 v2_26 = some x10 → Og p l e s m args below meth c Γ 4 2 43 σ (some (.int ρ)) σ 26 [(0, va_rf (some t)), (1, .int v1_26), (2, .int v2_26)] [] σ := by
      intro n
      induction n with
      | zero => intro _ _ h; cases (show (none : Option _) = some x10 from h)
      | succ n ihx10 =>
        intro v1_26 v2_26 h
        rw [LX8_lineFault_26] at h
        refine k_iload_n cx 2 dX8_lineFault_26 rfl rfl ?_
        refine k_iconst cx 5 dX8_lineFault_27 (by decide) ?_
        refine k_icmp_ge cx 55 dX8_lineFault_28 (by decide) (fun c11 => ?_) (fun c11 => ?_)
        · have h := ite_t h c11
          refine k_sub [0, 1] rfl ?_
          obtain rfl := Option.some.inj h
          exact Kx10
        · have h := ite_f h c11
          refine k_aload_n cx 0 dX8_lineFault_31 rfl rfl ?_
          refine k_iload_n cx 1 dX8_lineFault_32 rfl rfl ?_
          obtain ⟨q12, g13, h⟩ := bind_ok h
          refine k_callV cx iv_X8_23 (ci := 8) rfl (by decide) (w_X8_byteAt (dn_some hk0).2 g13) hk0 (As := [.int v1_26]) rfl rfl ⟨Nat.le_of_ble_eq_true rfl, Nat.le_of_ble_eq_true rfl⟩ (by simp [cat_rf, cat_i, cat_j]) dX8_lineFault_33 ?_
          refine k_bipush cx 62 dX8_lineFault_36 (by decide) ?_
          refine k_icmp_ne cx 55 dX8_lineFault_38 (by decide) (fun c14 => ?_) (fun c14 => ?_)
          · have h := ite_t h c14
            refine k_sub [0, 1] rfl ?_
            obtain rfl := Option.some.inj h
            exact Kx10
          · have h := ite_f h c14
            refine k_aload_n cx 0 dX8_lineFault_41 rfl rfl ?_
            refine k_iload_n cx 1 dX8_lineFault_42 rfl rfl ?_
            refine k_iconst cx 1 dX8_lineFault_43 (by decide) ?_
            refine k_iadd cx dX8_lineFault_44 ?_
            obtain ⟨q15, g16, h⟩ := bind_ok h
            refine k_callV cx iv_X8_19 (ci := 8) rfl (by decide) (w_X8_behindBlanks (dn_some hk0).2 g16) hk0 (As := [.int (v1_26 + 1)]) rfl rfl ⟨Nat.le_of_ble_eq_true rfl, Nat.le_of_ble_eq_true rfl⟩ (by simp [cat_rf, cat_i, cat_j]) dX8_lineFault_45 ?_
            refine k_istore_n cx (i := 1) [(1, .int q15), (0, va_rf (some t)), (2, .int v2_26)] dX8_lineFault_48 rfl (by decide) (by simp [cat_rf, cat_i, cat_j]) ?_
            refine k_iinc cx 2 [(2, .int (v2_26 + 1)), (1, .int q15), (0, va_rf (some t))] (v2_26 + 1) dX8_lineFault_49 rfl rfl (by decide) (by simp [cat_rf, cat_i, cat_j]) ?_
            refine k_goto cx 26 dX8_lineFault_52 (by decide) ?_
            refine k_sub [2, 1, 0] rfl ?_
            exact ihx10 _ _ h
    refine k_sub [1, 2, 0] rfl ?_
    exact KLx10 FU _ _ hxx10
  have h := hxx5
  refine k_icmp_ne cx 24 dX8_lineFault_13 (by decide) (fun c6 => ?_) (fun c6 => ?_)
  · have h := ite_t h c6
    refine k_sub [1, 0] rfl ?_
    obtain rfl := Option.some.inj h
    exact Kx5
  · have h := ite_f h c6
    refine k_aload_n cx 1 dX8_lineFault_16 rfl rfl ?_
    refine k_iload_n cx 0 dX8_lineFault_17 rfl rfl ?_
    refine k_iconst cx 1 dX8_lineFault_18 (by decide) ?_
    refine k_iadd cx dX8_lineFault_19 ?_
    obtain ⟨q7, g8, h⟩ := bind_ok h
    refine k_callV cx iv_X8_19 (ci := 8) rfl (by decide) (w_X8_behindBlanks (dn_some hk0).2 g8) hk0 (As := [.int (q1 + 1)]) rfl rfl ⟨Nat.le_of_ble_eq_true rfl, Nat.le_of_ble_eq_true rfl⟩ (by simp [cat_rf, cat_i, cat_j]) dX8_lineFault_20 ?_
    refine k_istore_n cx (i := 1) [(1, .int q7), (0, va_rf (some t))] dX8_lineFault_23 rfl (by decide) (by simp [cat_rf, cat_i, cat_j]) ?_
    refine k_sub [1, 0] rfl ?_
    obtain rfl := Option.some.inj h
    exact Kx5
set_option maxRecDepth 100000 in
set_option maxHeartbeats 4000000 in
theorem w_X10_shapeName {Γ : GE} {σ : St} {p1 : Int32} {ρ : Nat} (h : f_X10_shapeName σ p1 = some ρ) : Ct Γ yX10_shapeName cX10_shapeName 1 (some (.object "java/lang/String")) 0 0 [.int p1] σ (some (va_rf (some (gK Γ ρ)))) σ := by
  refine ct_intro (own := RX10) (L0 := [(0, .int p1)]) (by decide +kernel) rfl (by simp [lg_sl, cat_rf, cat_i, cat_j]) (by simp [lv_args, cat_rf, cat_i, cat_j]) ?_
  intro p l e s m args below meth c hr hlk hin cx
  unfold f_X10_shapeName at h
  refine k_iload_n cx 0 dX10_shapeName_0 rfl rfl ?_
  refine k_switch cx dX10_shapeName_1 (by decide) (fun hs => ?_) (by decide) (fun k off ho hs => ?_)
  · have h0 : ¬ p1 = 0 := fun q => by rw [q] at hs; revert hs; decide
    have h1 : ¬ p1 = 1 := fun q => by rw [q] at hs; revert hs; decide
    have h2 : ¬ p1 = 2 := fun q => by rw [q] at hs; revert hs; decide
    have h3 : ¬ p1 = 3 := fun q => by rw [q] at hs; revert hs; decide
    have h := ite_f h h0
    have h := ite_f h h1
    have h := ite_f h h2
    have h := ite_f h h3
    refine k_ldcS cx rfl 4 rfl rfl dX10_shapeName_48 ?_
    have h := Option.some.inj h
    exact k_aret cx hr hlk (by rw [← h]) rfl dX10_shapeName_51
  · match k, ho with
    | 0, ho =>
      cases ho
      have hv : p1 = 0 := Int32.toInt_inj.mp (by rw [hs]; rfl)
      have h := ite_t h hv
      refine ⟨by decide, ?_⟩
      refine k_ldcS cx rfl 0 rfl rfl dX10_shapeName_32 ?_
      have h := Option.some.inj h
      exact k_aret cx hr hlk (by rw [← h]) rfl dX10_shapeName_35
    | 1, ho =>
      cases ho
      have hv : p1 = 1 := Int32.toInt_inj.mp (by rw [hs]; rfl)
      have h := ite_f h (show ¬ p1 = 0 from fun q => by rw [hv] at q; revert q; decide)
      have h := ite_t h hv
      refine ⟨by decide, ?_⟩
      refine k_ldcS cx rfl 1 rfl rfl dX10_shapeName_36 ?_
      have h := Option.some.inj h
      exact k_aret cx hr hlk (by rw [← h]) rfl dX10_shapeName_39
    | 2, ho =>
      cases ho
      have hv : p1 = 2 := Int32.toInt_inj.mp (by rw [hs]; rfl)
      have h := ite_f h (show ¬ p1 = 0 from fun q => by rw [hv] at q; revert q; decide)
      have h := ite_f h (show ¬ p1 = 1 from fun q => by rw [hv] at q; revert q; decide)
      have h := ite_t h hv
      refine ⟨by decide, ?_⟩
      refine k_ldcS cx rfl 2 rfl rfl dX10_shapeName_40 ?_
      have h := Option.some.inj h
      exact k_aret cx hr hlk (by rw [← h]) rfl dX10_shapeName_43
    | 3, ho =>
      cases ho
      have hv : p1 = 3 := Int32.toInt_inj.mp (by rw [hs]; rfl)
      have h := ite_f h (show ¬ p1 = 0 from fun q => by rw [hv] at q; revert q; decide)
      have h := ite_f h (show ¬ p1 = 1 from fun q => by rw [hv] at q; revert q; decide)
      have h := ite_f h (show ¬ p1 = 2 from fun q => by rw [hv] at q; revert q; decide)
      have h := ite_t h hv
      refine ⟨by decide, ?_⟩
      refine k_ldcS cx rfl 3 rfl rfl dX10_shapeName_44 ?_
      have h := Option.some.inj h
      exact k_aret cx hr hlk (by rw [← h]) rfl dX10_shapeName_47
    | k + 4, ho => exact absurd ho (by simp)
set_option maxRecDepth 100000 in
set_option maxHeartbeats 4000000 in
theorem w_X8_isBetween {Γ : GE} {σ : St} {t : Nat} {p1 : Int32} {p2 : Int32} {p3 : Nat} {ρ : Int32} (hk : hpK σ t = 8) (h : f_X8_isBetween σ t p1 p2 p3 = some ρ) : Ct Γ yX8_isBetween cX8_isBetween 5 (some .boolean) 4 120 [va_rf (some t), .int p1, .int p2, va_rf (some (gK Γ p3))] σ (some (.int ρ)) σ := by
  refine ct_intro (own := RX8) (L0 := [(0, va_rf (some t)), (1, .int p1), (2, .int p2), (3, va_rf (some (gK Γ p3)))]) (by decide +kernel) rfl (by simp [lg_sl, cat_rf, cat_i, cat_j]) (by simp [lv_args, cat_rf, cat_i, cat_j]) ?_
  intro p l e s m args below meth c hr hlk hin cx
  have hk0 := dn_eq hk
  unfold f_X8_isBetween at h
  refine k_iload_n cx 2 dX8_isBetween_0 rfl rfl ?_
  refine k_iload_n cx 1 dX8_isBetween_1 rfl rfl ?_
  refine k_isub cx dX8_isBetween_2 ?_
  refine k_aload_n cx 3 dX8_isBetween_3 rfl rfl ?_
  obtain ⟨j1, g2, h⟩ := bind_ok h
  refine k_slen cx sl_X8_57 g2 ⟨Nat.le_of_ble_eq_true rfl, Nat.le_of_ble_eq_true rfl⟩ (by simp [cat_rf, cat_i, cat_j]) dX8_isBetween_4 ?_
  refine k_icmp_eq cx 12 dX8_isBetween_7 (by decide) (fun c3 => ?_) (fun c3 => ?_)
  · have h := ite_t h c3
    refine k_iconst cx 0 dX8_isBetween_12 (by decide) ?_
    refine k_istore cx [(4, .int 0), (0, va_rf (some t)), (1, .int p1), (2, .int p2), (3, va_rf (some (gK Γ p3)))] dX8_isBetween_13 (by decide) (by simp [cat_rf, cat_i, cat_j]) ?_
    obtain ⟨x5, hxx5, Hx5⟩ := sb_ok h
    have Kx5 : ∀ wx5, .inr wx5 = x5 → Og p l e s m args below meth c Γ 5 4 120 σ (some (.int ρ)) σ 49 [] [] σ := by
      intro wx5 hw
      have h := sb_inr hw Hx5
      refine k_iconst cx 1 dX8_isBetween_49 (by decide) ?_
      have h := Option.some.inj h
      exact k_zret cx hr hlk gz_1 (by rw [← h]) rfl dX8_isBetween_50
    have KLx5 : ∀ (n : Nat) (v4_15 : Int32), LX8_isBetween_15 n σ t p1 p3 v4_15 = some x5 → Og p l e s m args below meth c Γ 5 4 120 σ (some (.int ρ)) σ 15 [(0, va_rf (some t)), (1, .int p1), (3, va_rf (some (gK Γ p3))), (4, .int v4_15)] [] σ := by
      intro n
      induction n with
      | zero => intro _ h; cases (show (none : Option _) = some x5 from h)
      | succ n ihx5 =>
        intro v4_15 h
        rw [LX8_isBetween_15] at h
        refine k_iload cx 3 dX8_isBetween_15 rfl ?_
        refine k_aload_n cx 2 dX8_isBetween_17 rfl rfl ?_
        obtain ⟨j6, g7, h⟩ := bind_ok h
        refine k_slen cx sl_X8_57 g7 ⟨Nat.le_of_ble_eq_true rfl, Nat.le_of_ble_eq_true rfl⟩ (by simp [cat_rf, cat_i, cat_j]) dX8_isBetween_18 ?_
        refine k_icmp_ge cx 49 dX8_isBetween_21 (by decide) (fun c8 => ?_) (fun c8 => ?_)
        · have h := ite_t h c8
          refine k_sub [] rfl ?_
          exact Kx5 _ (Option.some.inj h)
        · have h := ite_f h c8
          refine k_aload_n cx 0 dX8_isBetween_24 rfl rfl ?_
          refine k_iload_n cx 1 dX8_isBetween_25 rfl rfl ?_
          refine k_iload cx 3 dX8_isBetween_26 rfl ?_
          refine k_iadd cx dX8_isBetween_28 ?_
          obtain ⟨q9, g10, h⟩ := bind_ok h
          refine k_callV cx iv_X8_23 (ci := 8) rfl (by decide) (w_X8_byteAt (dn_some hk0).2 g10) hk0 (As := [.int (p1 + v4_15)]) rfl rfl ⟨Nat.le_of_ble_eq_true rfl, Nat.le_of_ble_eq_true rfl⟩ (by simp [cat_rf, cat_i, cat_j]) dX8_isBetween_29 ?_
          refine k_aload_n cx 2 dX8_isBetween_32 rfl rfl ?_
          refine k_iload cx 3 dX8_isBetween_33 rfl ?_
          obtain ⟨j11, g12, h⟩ := bind_ok h
          refine k_schar cx sl_X8_61 g12 ⟨Nat.le_of_ble_eq_true rfl, Nat.le_of_ble_eq_true rfl⟩ (by simp [cat_rf, cat_i, cat_j]) dX8_isBetween_35 ?_
          refine k_icmp_eq cx 43 dX8_isBetween_38 (by decide) (fun c13 => ?_) (fun c13 => ?_)
          · have h := ite_t h c13
            refine k_iinc cx 3 [(4, .int (v4_15 + 1)), (0, va_rf (some t)), (1, .int p1), (3, va_rf (some (gK Γ p3)))] (v4_15 + 1) dX8_isBetween_43 rfl rfl (by decide) (by simp [cat_rf, cat_i, cat_j]) ?_
            refine k_goto cx 15 dX8_isBetween_46 (by decide) ?_
            refine k_sub [1, 2, 3, 0] rfl ?_
            exact ihx5 _ h
          · have h := ite_f h c13
            refine k_iconst cx 0 dX8_isBetween_41 (by decide) ?_
            have h := Option.some.inj h
            have h := sb_ret h Hx5
            exact k_zret cx hr hlk gz_0 (by rw [← h]) rfl dX8_isBetween_42
    refine k_sub [1, 2, 4, 0] rfl ?_
    exact KLx5 FU _ hxx5
  · have h := ite_f h c3
    refine k_iconst cx 0 dX8_isBetween_10 (by decide) ?_
    have h := Option.some.inj h
    exact k_zret cx hr hlk gz_0 (by rw [← h]) rfl dX8_isBetween_11
set_option maxRecDepth 100000 in
set_option maxHeartbeats 4000000 in
theorem w_X8_namedShape {Γ : GE} {σ : St} {t : Nat} {ρ : Int32} (hk : hpK σ t = 8) (h : f_X8_namedShape σ t = some ρ) : Ct Γ yX8_namedShape cX8_namedShape 4 (some .int) 5 144 [va_rf (some t)] σ (some (.int ρ)) σ := by
  refine ct_intro (own := RX8) (L0 := [(0, va_rf (some t))]) (by decide +kernel) rfl (by simp [lg_sl, cat_rf, cat_i, cat_j]) (by simp [lv_args, cat_rf, cat_i, cat_j]) ?_
  intro p l e s m args below meth c hr hlk hin cx
  have hk0 := dn_eq hk
  unfold f_X8_namedShape at h
  refine k_aload_n cx 0 dX8_namedShape_0 rfl rfl ?_
  refine k_iconst cx 0 dX8_namedShape_1 (by decide) ?_
  obtain ⟨q1, g2, h⟩ := bind_ok h
  refine k_callV cx iv_X8_19 (ci := 8) rfl (by decide) (w_X8_behindBlanks (dn_some hk0).2 g2) hk0 (As := [.int 0]) rfl rfl ⟨Nat.le_of_ble_eq_true rfl, Nat.le_of_ble_eq_true rfl⟩ (by simp [cat_rf, cat_i, cat_j]) dX8_namedShape_2 ?_
  refine k_istore_n cx (i := 1) [(1, .int q1), (0, va_rf (some t))] dX8_namedShape_5 rfl (by decide) (by simp [cat_rf, cat_i, cat_j]) ?_
  refine k_aload_n cx 1 dX8_namedShape_6 rfl rfl ?_
  refine k_iload_n cx 0 dX8_namedShape_7 rfl rfl ?_
  obtain ⟨q3, g4, h⟩ := bind_ok h
  refine k_callV cx iv_X8_30 (ci := 8) rfl (by decide) (w_X8_behindLetters (dn_some hk0).2 g4) hk0 (As := [.int q1]) rfl rfl ⟨Nat.le_of_ble_eq_true rfl, Nat.le_of_ble_eq_true rfl⟩ (by simp [cat_rf, cat_i, cat_j]) dX8_namedShape_8 ?_
  refine k_istore_n cx (i := 2) [(2, .int q3), (1, .int q1), (0, va_rf (some t))] dX8_namedShape_11 rfl (by decide) (by simp [cat_rf, cat_i, cat_j]) ?_
  refine k_iconst cx 0 dX8_namedShape_12 (by decide) ?_
  refine k_istore_n cx (i := 3) [(3, .int 0), (2, .int q3), (1, .int q1), (0, va_rf (some t))] dX8_namedShape_13 rfl (by decide) (by simp [cat_rf, cat_i, cat_j]) ?_
  obtain ⟨x6, hxx6, Hx6⟩ := sb_ok h
  have Kx6 : ∀ wx6, .inr wx6 = x6 → Og p l e s m args below meth c Γ 4 5 144 σ (some (.int ρ)) σ 40 [] [] σ := by
    intro wx6 hw
    have h := sb_inr hw Hx6
    refine k_iconst cx (-1) dX8_namedShape_40 (by decide) ?_
    have h := Option.some.inj h
    exact k_iret cx hr hlk (by rw [← h]) rfl dX8_namedShape_41
  have KLx6 : ∀ (n : Nat) (v3_14 : Int32), LX8_namedShape_14 n σ t q1 q3 v3_14 = some x6 → Og p l e s m args below meth c Γ 4 5 144 σ (some (.int ρ)) σ 14 [(0, va_rf (some t)), (1, .int q1), (2, .int q3), (3, .int v3_14)] [] σ := by
    intro n
    induction n with
    | zero => intro _ h; cases (show (none : Option _) = some x6 from h)
    | succ n ihx6 =>
      intro v3_14 h
      rw [LX8_namedShape_14] at h
      refine k_iload_n cx 3 dX8_namedShape_14 rfl rfl ?_
      refine k_iconst cx 4 dX8_namedShape_15 (by decide) ?_
      refine k_icmp_ge cx 40 dX8_namedShape_16 (by decide) (fun c7 => ?_) (fun c7 => ?_)
      · have h := ite_t h c7
        refine k_sub [] rfl ?_
        exact Kx6 _ (Option.some.inj h)
      · have h := ite_f h c7
        refine k_aload_n cx 0 dX8_namedShape_19 rfl rfl ?_
        refine k_iload_n cx 1 dX8_namedShape_20 rfl rfl ?_
        refine k_iload_n cx 2 dX8_namedShape_21 rfl rfl ?_
        refine k_iload_n cx 3 dX8_namedShape_22 rfl rfl ?_
        obtain ⟨q8, g9, h⟩ := bind_ok h
        refine k_callSN cx iv_X8_37 (w_X10_shapeName g9) (As := [.int v3_14]) rfl rfl ⟨Nat.le_of_ble_eq_true rfl, Nat.le_of_ble_eq_true rfl⟩ (by simp [cat_rf, cat_i, cat_j]) dX8_namedShape_23 ?_
        obtain ⟨q10, g11, h⟩ := bind_ok h
        refine k_callV cx iv_X8_41 (ci := 8) rfl (by decide) (w_X8_isBetween (dn_some hk0).2 g11) hk0 (As := [.int q1, .int q3, va_rf (some (gK Γ q8))]) rfl rfl ⟨Nat.le_of_ble_eq_true rfl, Nat.le_of_ble_eq_true rfl⟩ (by simp [cat_rf, cat_i, cat_j]) dX8_namedShape_26 ?_
        refine k_if_eq cx 34 dX8_namedShape_29 (by decide) (fun c12 => ?_) (fun c12 => ?_)
        · have h := ite_t h c12
          refine k_iinc cx 3 [(3, .int (v3_14 + 1)), (0, va_rf (some t)), (1, .int q1), (2, .int q3)] (v3_14 + 1) dX8_namedShape_34 rfl rfl (by decide) (by simp [cat_rf, cat_i, cat_j]) ?_
          refine k_goto cx 14 dX8_namedShape_37 (by decide) ?_
          refine k_sub [1, 2, 3, 0] rfl ?_
          exact ihx6 _ h
        · have h := ite_f h c12
          refine k_iload_n cx 3 dX8_namedShape_32 rfl rfl ?_
          have h := Option.some.inj h
          have h := sb_ret h Hx6
          exact k_iret cx hr hlk (by rw [← h]) rfl dX8_namedShape_33
  refine k_sub [3, 2, 1, 0] rfl ?_
  exact KLx6 FU _ hxx6
set_option maxRecDepth 100000 in
set_option maxHeartbeats 4000000 in
theorem w_X8_shapeFault {Γ : GE} {σ : St} {t : Nat} {ρ : Int32} (hk : hpK σ t = 8) (h : f_X8_shapeFault σ t = some ρ) : Ct Γ yX8_shapeFault cX8_shapeFault 2 (some .int) 6 167 [va_rf (some t)] σ (some (.int ρ)) σ := by
  refine ct_intro (own := RX8) (L0 := [(0, va_rf (some t))]) (by decide +kernel) rfl (by simp [lg_sl, cat_rf, cat_i, cat_j]) (by simp [lv_args, cat_rf, cat_i, cat_j]) ?_
  intro p l e s m args below meth c hr hlk hin cx
  have hk0 := dn_eq hk
  unfold f_X8_shapeFault at h
  refine k_aload_n cx 0 dX8_shapeFault_0 rfl rfl ?_
  obtain ⟨q1, g2, h⟩ := bind_ok h
  refine k_callV cx iv_X8_33 (ci := 8) rfl (by decide) (w_X8_namedShape (dn_some hk0).2 g2) hk0 (As := []) rfl rfl ⟨Nat.le_of_ble_eq_true rfl, Nat.le_of_ble_eq_true rfl⟩ (by simp [cat_rf, cat_i, cat_j]) dX8_shapeFault_1 ?_
  refine k_iconst cx (-1) dX8_shapeFault_4 (by decide) ?_
  refine k_icmp_ne cx 14 dX8_shapeFault_5 (by decide) (fun c3 => ?_) (fun c3 => ?_)
  · have h := ite_t h c3
    refine k_aload_n cx 0 dX8_shapeFault_14 rfl rfl ?_
    refine k_aload_n cx 0 dX8_shapeFault_15 rfl rfl ?_
    refine k_aload_n cx 0 dX8_shapeFault_16 rfl rfl ?_
    refine k_iconst cx 0 dX8_shapeFault_17 (by decide) ?_
    obtain ⟨q4, g5, h⟩ := bind_ok h
    refine k_callV cx iv_X8_19 (ci := 8) rfl (by decide) (w_X8_behindBlanks (dn_some hk0).2 g5) hk0 (As := [.int 0]) rfl rfl ⟨Nat.le_of_ble_eq_true rfl, Nat.le_of_ble_eq_true rfl⟩ (by simp [cat_rf, cat_i, cat_j]) dX8_shapeFault_18 ?_
    obtain ⟨q6, g7, h⟩ := bind_ok h
    refine k_callV cx iv_X8_30 (ci := 8) rfl (by decide) (w_X8_behindLetters (dn_some hk0).2 g7) hk0 (As := [.int q4]) rfl rfl ⟨Nat.le_of_ble_eq_true rfl, Nat.le_of_ble_eq_true rfl⟩ (by simp [cat_rf, cat_i, cat_j]) dX8_shapeFault_21 ?_
    obtain ⟨q8, g9, h⟩ := bind_ok h
    refine k_callV cx iv_X8_19 (ci := 8) rfl (by decide) (w_X8_behindBlanks (dn_some hk0).2 g9) hk0 (As := [.int q6]) rfl rfl ⟨Nat.le_of_ble_eq_true rfl, Nat.le_of_ble_eq_true rfl⟩ (by simp [cat_rf, cat_i, cat_j]) dX8_shapeFault_24 ?_
    refine k_istore_n cx (i := 1) [(1, .int q8), (0, va_rf (some t))] dX8_shapeFault_27 rfl (by decide) (by simp [cat_rf, cat_i, cat_j]) ?_
    refine k_iload_n cx 0 dX8_shapeFault_28 rfl rfl ?_
    refine k_aload_n cx 1 dX8_shapeFault_29 rfl rfl ?_
    refine q_getI cx fl_X8_15 hk0 dX8_shapeFault_30 ?_
    refine k_icmp_ge cx 40 dX8_shapeFault_33 (by decide) (fun c10 => ?_) (fun c10 => ?_)
    · have h := ite_t h c10
      refine k_iconst cx (-1) dX8_shapeFault_40 (by decide) ?_
      have h := Option.some.inj h
      exact k_iret cx hr hlk (by rw [← h]) rfl dX8_shapeFault_41
    · have h := ite_f h c10
      refine k_iload_n cx 0 dX8_shapeFault_36 rfl rfl ?_
      refine k_goto cx 41 dX8_shapeFault_37 (by decide) ?_
      have h := Option.some.inj h
      exact k_iret cx hr hlk (by rw [← h]) rfl dX8_shapeFault_41
  · have h := ite_f h c3
    refine k_aload_n cx 0 dX8_shapeFault_8 rfl rfl ?_
    refine k_iconst cx 0 dX8_shapeFault_9 (by decide) ?_
    obtain ⟨q11, g12, h⟩ := bind_ok h
    refine k_callV cx iv_X8_19 (ci := 8) rfl (by decide) (w_X8_behindBlanks (dn_some hk0).2 g12) hk0 (As := [.int 0]) rfl rfl ⟨Nat.le_of_ble_eq_true rfl, Nat.le_of_ble_eq_true rfl⟩ (by simp [cat_rf, cat_i, cat_j]) dX8_shapeFault_10 ?_
    have h := Option.some.inj h
    exact k_iret cx hr hlk (by rw [← h]) rfl dX8_shapeFault_13
set_option maxRecDepth 100000 in
set_option maxHeartbeats 4000000 in
theorem w_X9_init {Γ : GE} {σ : St} {t : Nat} {ρ : St} (hk : hpK σ t = 9) (h : f_X9_init σ t = some ρ) : Ct Γ yX9_init cX9_init 1 none 1 20 [va_rf (some t)] σ none ρ := by
  refine ct_intro (own := RX9) (L0 := [(0, va_rf (some t))]) (by decide +kernel) rfl (by simp [lg_sl, cat_rf, cat_i, cat_j]) (by simp [lv_args, cat_rf, cat_i, cat_j]) ?_
  intro p l e s m args below meth c hr hlk hin cx
  have hk0 := dn_eq hk
  unfold f_X9_init at h
  refine k_aload_n cx 0 dX9_init_0 rfl rfl ?_
  refine k_objInit cx oi_X9_3 oi_i oi_c ⟨Nat.le_of_ble_eq_true rfl, Nat.le_of_ble_eq_true rfl⟩ (by simp [cat_rf, cat_i, cat_j]) dX9_init_1 ?_
  refine k_aload_n cx 0 dX9_init_4 rfl rfl ?_
  refine k_bipush cx 80 dX9_init_5 (by decide) ?_
  obtain ⟨σ1, g2, h⟩ := bind_ok h
  refine k_newarr cx (k := 12) (by decide) g2 ac_byte dX9_init_7 ?_
  obtain ⟨a3, g4, h⟩ := bind_ok h
  refine q_putRF cx pl_X9_9 hin g4 dX9_init_9 ?_
  refine k_aload_n cx 0 dX9_init_12 rfl rfl ?_
  refine k_bipush cx 40 dX9_init_13 (by decide) ?_
  obtain ⟨σ5, g6, h⟩ := bind_ok h
  refine k_newarr cx (k := 13) (by decide) g6 ac_int dX9_init_15 ?_
  obtain ⟨a7, g8, h⟩ := bind_ok h
  refine q_putRF cx pl_X9_15 hin g8 dX9_init_17 ?_
  refine k_aload_n cx 0 dX9_init_20 rfl rfl ?_
  refine k_iconst cx 0 dX9_init_21 (by decide) ?_
  refine q_putI cx pl_X9_19 g8 dX9_init_22 ?_
  refine k_aload_n cx 0 dX9_init_25 rfl rfl ?_
  refine k_iconst cx 0 dX9_init_26 (by decide) ?_
  refine q_putI cx pl_X9_23 g8 dX9_init_27 ?_
  refine k_aload_n cx 0 dX9_init_30 rfl rfl ?_
  refine k_iconst cx 0 dX9_init_31 (by decide) ?_
  refine q_putI cx pl_X9_26 g8 dX9_init_32 ?_
  have h := Option.some.inj h
  exact k_vret cx hr hlk rfl (by rw [← h]) dX9_init_35
set_option maxRecDepth 100000 in
set_option maxHeartbeats 4000000 in
theorem w_X9_append {Γ : GE} {σ : St} {t : Nat} {p1 : Int32} {ρ : St} (hk : hpK σ t = 9) (h : f_X9_append σ t p1 = some ρ) : Ct Γ yX9_append cX9_append 2 none 0 0 [va_rf (some t), .int p1] σ none ρ := by
  refine ct_intro (own := RX9) (L0 := [(0, va_rf (some t)), (1, .int p1)]) (by decide +kernel) rfl (by simp [lg_sl, cat_rf, cat_i, cat_j]) (by simp [lv_args, cat_rf, cat_i, cat_j]) ?_
  intro p l e s m args below meth c hr hlk hin cx
  have hk0 := dn_eq hk
  unfold f_X9_append at h
  refine k_aload_n cx 0 dX9_append_0 rfl rfl ?_
  refine q_getI cx fl_X9_19 hk0 dX9_append_1 ?_
  refine k_if_lt cx 40 dX9_append_4 (by decide) (fun c1 => ?_) (fun c1 => ?_)
  · have h := ite_t h c1
    have h := Option.some.inj h
    exact k_vret cx hr hlk rfl (by rw [← h]) dX9_append_40
  · have h := ite_f h c1
    refine k_aload_n cx 0 dX9_append_7 rfl rfl ?_
    refine q_getI cx fl_X9_19 hk0 dX9_append_8 ?_
    refine k_aload_n cx 0 dX9_append_11 rfl rfl ?_
    refine q_getR cx fl_X9_9 hk0 dX9_append_12 ?_
    obtain ⟨a2, g3, h⟩ := bind_ok h
    refine k_alen cx (by decide) g3 dX9_append_15 ?_
    refine k_icmp_ge cx 40 dX9_append_16 (by decide) (fun c4 => ?_) (fun c4 => ?_)
    · have h := ite_t h c4
      have h := Option.some.inj h
      exact k_vret cx hr hlk rfl (by rw [← h]) dX9_append_40
    · have h := ite_f h c4
      refine k_aload_n cx 0 dX9_append_19 rfl rfl ?_
      refine q_getR cx fl_X9_9 hk0 dX9_append_20 ?_
      refine k_aload_n cx 0 dX9_append_23 rfl rfl ?_
      refine q_getI cx fl_X9_19 hk0 dX9_append_24 ?_
      refine k_iload_n cx 1 dX9_append_27 rfl rfl ?_
      refine k_i2b cx dX9_append_28 ?_
      obtain ⟨j5, g6, h⟩ := bind_ok h
      refine k_bast cx g3 g6 dX9_append_29 ?_
      refine k_aload_n cx 0 dX9_append_30 rfl rfl ?_
      refine k_dup cx (by simp [cat_rf, cat_i, cat_j]) dX9_append_31 ?_
      refine q_getI cx fl_X9_19 hk0 dX9_append_32 ?_
      refine k_iconst cx 1 dX9_append_35 (by decide) ?_
      refine k_iadd cx dX9_append_36 ?_
      refine q_putI cx pl_X9_19 hk0 dX9_append_37 ?_
      have h := Option.some.inj h
      exact k_vret cx hr hlk rfl (by rw [← h]) dX9_append_40
set_option maxRecDepth 100000 in
set_option maxHeartbeats 4000000 in
theorem w_X9_add {Γ : GE} {σ : St} {t : Nat} {p1 : Int32} {p2 : Int32} {ρ : St} (hk : hpK σ t = 9) (h : f_X9_add σ t p1 p2 = some ρ) : Ct Γ yX9_add cX9_add 3 none 1 21 [va_rf (some t), .int p1, .int p2] σ none ρ := by
  refine ct_intro (own := RX9) (L0 := [(0, va_rf (some t)), (1, .int p1), (2, .int p2)]) (by decide +kernel) rfl (by simp [lg_sl, cat_rf, cat_i, cat_j]) (by simp [lv_args, cat_rf, cat_i, cat_j]) ?_
  intro p l e s m args below meth c hr hlk hin cx
  have hk0 := dn_eq hk
  unfold f_X9_add at h
  refine k_iload_n cx 2 dX9_add_0 rfl rfl ?_
  obtain ⟨x1, hxx1, h⟩ := bind_ok h
  have Kx1 : Og p l e s m args below meth c Γ 3 1 21 σ none ρ 27 [(0, va_rf (some t)), (1, .int p1)] [] x1 := by
    refine k_aload_n cx 0 dX9_add_27 rfl rfl ?_
    refine k_iload_n cx 1 dX9_add_28 rfl rfl ?_
    obtain ⟨a9, g10, h⟩ := bind_ok h
    obtain ⟨q11, g12, h⟩ := bind_ok h
    refine k_callV cx iv_X9_29 (ci := 9) rfl (by decide) (w_X9_append (dn_some g10).2 g12) g10 (As := [.int p1]) rfl rfl ⟨Nat.le_of_ble_eq_true rfl, Nat.le_of_ble_eq_true rfl⟩ (by simp [cat_rf, cat_i, cat_j]) dX9_add_29 ?_
    refine k_aload_n cx 0 dX9_add_32 rfl rfl ?_
    refine k_dup cx (by simp [cat_rf, cat_i, cat_j]) dX9_add_33 ?_
    obtain ⟨a13, g14, h⟩ := bind_ok h
    refine q_getI cx fl_X9_26 g14 dX9_add_34 ?_
    refine k_iconst cx 1 dX9_add_37 (by decide) ?_
    refine k_iadd cx dX9_add_38 ?_
    refine q_putI cx pl_X9_26 g14 dX9_add_39 ?_
    refine k_aload_n cx 0 dX9_add_42 rfl rfl ?_
    refine q_getI cx fl_X9_23 g14 dX9_add_43 ?_
    refine k_if_le cx 76 dX9_add_46 (by decide) (fun c15 => ?_) (fun c15 => ?_)
    · have h := ite_t h c15
      have h := Option.some.inj h
      exact k_vret cx hr hlk rfl (by rw [← h]) dX9_add_76
    · have h := ite_f h c15
      refine k_aload_n cx 0 dX9_add_49 rfl rfl ?_
      refine q_getI cx fl_X9_23 g14 dX9_add_50 ?_
      refine k_aload_n cx 0 dX9_add_53 rfl rfl ?_
      refine q_getR cx fl_X9_15 g14 dX9_add_54 ?_
      obtain ⟨a16, g17, h⟩ := bind_ok h
      refine k_alenA cx g17 dX9_add_57 ?_
      refine k_icmp_gt cx 76 dX9_add_58 (by decide) (fun c18 => ?_) (fun c18 => ?_)
      · have h := ite_t h c18
        have h := Option.some.inj h
        exact k_vret cx hr hlk rfl (by rw [← h]) dX9_add_76
      · have h := ite_f h c18
        refine k_aload_n cx 0 dX9_add_61 rfl rfl ?_
        refine q_getR cx fl_X9_15 g14 dX9_add_62 ?_
        refine k_aload_n cx 0 dX9_add_65 rfl rfl ?_
        refine q_getI cx fl_X9_23 g14 dX9_add_66 ?_
        refine k_iconst cx 1 dX9_add_69 (by decide) ?_
        refine k_isub cx dX9_add_70 ?_
        refine k_dup2 cx (by simp [cat_rf, cat_i, cat_j]) (by simp [cat_rf, cat_i, cat_j]) dX9_add_71 ?_
        obtain ⟨j19, g20, h⟩ := bind_ok h
        refine k_iald cx g17 g20 dX9_add_72 ?_
        refine k_iconst cx 1 dX9_add_73 (by decide) ?_
        refine k_iadd cx dX9_add_74 ?_
        obtain ⟨a21, g22, h⟩ := bind_ok h
        obtain ⟨j23, g24, h⟩ := bind_ok h
        refine k_iast cx g22 g24 dX9_add_75 ?_
        have h := Option.some.inj h
        exact k_vret cx hr hlk rfl (by rw [← h]) dX9_add_76
  have h := hxx1
  refine k_if_eq cx 27 dX9_add_1 (by decide) (fun c2 => ?_) (fun c2 => ?_)
  · have h := ite_t h c2
    refine k_sub [0, 1] rfl ?_
    obtain rfl := Option.some.inj h
    exact Kx1
  · have h := ite_f h c2
    refine k_aload_n cx 0 dX9_add_4 rfl rfl ?_
    refine q_getI cx fl_X9_23 hk0 dX9_add_5 ?_
    obtain ⟨x3, hxx3, h⟩ := bind_ok h
    have Kx3 : Og p l e s m args below meth c Γ 3 1 21 σ none ρ 17 [(0, va_rf (some t)), (1, .int p1)] [] x3 := by
      refine k_aload_n cx 0 dX9_add_17 rfl rfl ?_
      refine k_dup cx (by simp [cat_rf, cat_i, cat_j]) dX9_add_18 ?_
      obtain ⟨a7, g8, h⟩ := bind_ok h
      refine q_getI cx fl_X9_23 g8 dX9_add_19 ?_
      refine k_iconst cx 1 dX9_add_22 (by decide) ?_
      refine k_iadd cx dX9_add_23 ?_
      refine q_putI cx pl_X9_23 g8 dX9_add_24 ?_
      obtain rfl := Option.some.inj h
      exact Kx1
    have h := hxx3
    refine k_if_le cx 17 dX9_add_8 (by decide) (fun c4 => ?_) (fun c4 => ?_)
    · have h := ite_t h c4
      refine k_sub [0, 1] rfl ?_
      obtain rfl := Option.some.inj h
      exact Kx3
    · have h := ite_f h c4
      refine k_aload_n cx 0 dX9_add_11 rfl rfl ?_
      refine k_bipush cx 32 dX9_add_12 (by decide) ?_
      obtain ⟨q5, g6, h⟩ := bind_ok h
      refine k_callV cx iv_X9_29 (ci := 9) rfl (by decide) (w_X9_append (dn_some hk0).2 g6) hk0 (As := [.int 32]) rfl rfl ⟨Nat.le_of_ble_eq_true rfl, Nat.le_of_ble_eq_true rfl⟩ (by simp [cat_rf, cat_i, cat_j]) dX9_add_14 ?_
      refine k_sub [0, 1] rfl ?_
      obtain rfl := Option.some.inj h
      exact Kx3
set_option maxRecDepth 100000 in
set_option maxHeartbeats 4000000 in
theorem w_X8_toLine {Γ : GE} {σ : St} {t : Nat} {ρ : Option Nat × St} (hk : hpK σ t = 8) (h : f_X8_toLine σ t = some ρ) : Ct Γ yX8_toLine cX8_toLine 7 (some (.object "PoemPages$Line")) 2 44 [va_rf (some t)] σ (some (va_rf ρ.1)) ρ.2 := by
  refine ct_intro (own := RX8) (L0 := [(0, va_rf (some t))]) (by decide +kernel) rfl (by simp [lg_sl, cat_rf, cat_i, cat_j]) (by simp [lv_args, cat_rf, cat_i, cat_j]) ?_
  intro p l e s m args below meth c hr hlk hin cx
  have hk0 := dn_eq hk
  unfold f_X8_toLine at h
  obtain ⟨σ1, g2, h⟩ := bind_ok h
  refine k_new cx nw_X8_45 g2 dX8_toLine_0 ?_
  refine k_dup cx (by simp [cat_rf, cat_i, cat_j]) dX8_toLine_3 ?_
  obtain ⟨a3, g4, h⟩ := bind_ok h
  obtain ⟨q5, g6, h⟩ := bind_ok h
  refine k_callIN cx iv_X8_47 (w_X9_init (dn_some g4).2 g6) (dn_some g4).1 (As := []) rfl rfl ⟨Nat.le_of_ble_eq_true rfl, Nat.le_of_ble_eq_true rfl⟩ (by simp [cat_rf, cat_i, cat_j]) dX8_toLine_4 ?_
  refine k_astore_n cx (i := 1) [(1, va_rf (some (hpN σ))), (0, va_rf (some t))] dX8_toLine_7 rfl (by decide) (by simp [cat_rf, cat_i, cat_j]) ?_
  refine k_iconst cx 0 dX8_toLine_8 (by decide) ?_
  refine k_istore_n cx (i := 2) [(2, .int 0), (1, va_rf (some (hpN σ))), (0, va_rf (some t))] dX8_toLine_9 rfl (by decide) (by simp [cat_rf, cat_i, cat_j]) ?_
  refine k_iconst cx 0 dX8_toLine_10 (by decide) ?_
  refine k_istore_n cx (i := 3) [(3, .int 0), (2, .int 0), (1, va_rf (some (hpN σ))), (0, va_rf (some t))] dX8_toLine_11 rfl (by decide) (by simp [cat_rf, cat_i, cat_j]) ?_
  refine k_iconst cx 0 dX8_toLine_12 (by decide) ?_
  refine k_istore cx [(4, .int 0), (3, .int 0), (2, .int 0), (1, va_rf (some (hpN σ))), (0, va_rf (some t))] dX8_toLine_13 (by decide) (by simp [cat_rf, cat_i, cat_j]) ?_
  refine k_iconst cx 0 dX8_toLine_15 (by decide) ?_
  refine k_istore cx [(5, .int 0), (4, .int 0), (3, .int 0), (2, .int 0), (1, va_rf (some (hpN σ))), (0, va_rf (some t))] dX8_toLine_16 (by decide) (by simp [cat_rf, cat_i, cat_j]) ?_
  obtain ⟨x8, hxx8, h⟩ := bind_ok h
  have Kx8 : Og p l e s m args below meth c Γ 7 2 44 σ (some (va_rf ρ.1)) ρ.2 111 [(1, va_rf (some (hpN σ))), (2, .int x8.1), (3, .int x8.2.1), (4, .int x8.2.2.1)] [] x8.2.2.2 := by
    obtain ⟨σ31, g32, h⟩ := bind_ok h
    refine k_new cx nw_X8_52 g32 dX8_toLine_111 ?_
    refine k_dup cx (by simp [cat_rf, cat_i, cat_j]) dX8_toLine_114 ?_
    refine k_aload_n cx 0 dX8_toLine_115 rfl rfl ?_
    refine k_iload cx 3 dX8_toLine_116 rfl ?_
    refine k_iload_n cx 1 dX8_toLine_118 rfl rfl ?_
    refine k_iload_n cx 2 dX8_toLine_119 rfl rfl ?_
    obtain ⟨a33, g34, h⟩ := bind_ok h
    obtain ⟨q35, g36, h⟩ := bind_ok h
    refine k_callI cx iv_X8_54 (w_X2_init (dn_some g34).2 g36) (dn_some g34).1 (As := [va_rf (some (hpN σ)), .int x8.2.2.1, .int x8.1, .int x8.2.1]) rfl rfl ⟨Nat.le_of_ble_eq_true rfl, Nat.le_of_ble_eq_true rfl⟩ (by simp [cat_rf, cat_i, cat_j]) dX8_toLine_120 ?_
    have h := Option.some.inj h
    exact k_aret cx hr hlk (by rw [← h]) (by rw [← h]) dX8_toLine_123
  have KLx8 : ∀ (n : Nat) (v2_18 : Int32) (v3_18 : Int32) (v4_18 : Int32) (v5_18 : Int32) (τ18 : St), LX8_toLine_18 n t (some (hpN σ)) v2_18 v3_18 v4_18 v5_18 τ18 = some x8 → Og p l e s m args below meth c Γ 7 2 44 σ (some (va_rf ρ.1)) ρ.2 18 [(0, va_rf (some t)), (1, va_rf (some (hpN σ))), (2, .int v2_18), (3, .int v3_18), (4, .int v4_18), (5, .int v5_18)] [] τ18 := by
    intro n
    induction n with
    | zero => intro _ _ _ _ _ h; cases (show (none : Option _) = some x8 from h)
    | succ n ihx8 =>
      intro v2_18 v3_18 v4_18 v5_18 τ18 h
      rw [LX8_toLine_18] at h
      refine k_iload cx 5 dX8_toLine_18 rfl ?_
      refine k_aload_n cx 0 dX8_toLine_20 rfl rfl ?_
      obtain ⟨a9, g10, h⟩ := bind_ok h
      refine q_getI cx fl_X8_15 g10 dX8_toLine_21 ?_
      refine k_icmp_ge cx 111 dX8_toLine_24 (by decide) (fun c11 => ?_) (fun c11 => ?_)
      · have h := ite_t h c11
        refine k_sub [1, 2, 3, 4] rfl ?_
        obtain rfl := Option.some.inj h
        exact Kx8
      · have h := ite_f h c11
        refine k_aload_n cx 0 dX8_toLine_27 rfl rfl ?_
        refine k_iload cx 5 dX8_toLine_28 rfl ?_
        obtain ⟨q12, g13, h⟩ := bind_ok h
        refine k_callV cx iv_X8_23 (ci := 8) rfl (by decide) (w_X8_byteAt (dn_some g10).2 g13) g10 (As := [.int v5_18]) rfl rfl ⟨Nat.le_of_ble_eq_true rfl, Nat.le_of_ble_eq_true rfl⟩ (by simp [cat_rf, cat_i, cat_j]) dX8_toLine_30 ?_
        refine k_istore cx [(6, .int q12), (0, va_rf (some t)), (1, va_rf (some (hpN σ))), (2, .int v2_18), (3, .int v3_18), (4, .int v4_18), (5, .int v5_18)] dX8_toLine_33 (by decide) (by simp [cat_rf, cat_i, cat_j]) ?_
        refine k_iload cx 0 dX8_toLine_35 rfl ?_
        obtain ⟨q14, g15, h⟩ := bind_ok h
        refine k_callSN cx iv_X8_26 (w_X10_isLetter g15) (As := [.int q12]) rfl rfl ⟨Nat.le_of_ble_eq_true rfl, Nat.le_of_ble_eq_true rfl⟩ (by simp [cat_rf, cat_i, cat_j]) dX8_toLine_37 ?_
        obtain ⟨x16, hxx16, h⟩ := bind_ok h
        have Kx16 : Og p l e s m args below meth c Γ 7 2 44 σ (some (va_rf ρ.1)) ρ.2 105 [(0, va_rf (some t)), (1, va_rf (some (hpN σ))), (2, .int x16.1), (3, .int x16.2.1), (4, .int x16.2.2.1), (5, .int v5_18)] [] x16.2.2.2 := by
          refine k_iinc cx 5 [(5, .int (v5_18 + 1)), (0, va_rf (some t)), (1, va_rf (some (hpN σ))), (2, .int x16.1), (3, .int x16.2.1), (4, .int x16.2.2.1)] (v5_18 + 1) dX8_toLine_105 rfl rfl (by decide) (by simp [cat_rf, cat_i, cat_j]) ?_
          refine k_goto cx 18 dX8_toLine_108 (by decide) ?_
          refine k_sub [1, 2, 3, 4, 5, 0] rfl ?_
          exact ihx8 _ _ _ _ _ h
        have h := hxx16
        refine k_if_eq cx 71 dX8_toLine_40 (by decide) (fun c17 => ?_) (fun c17 => ?_)
        · have h := ite_t h c17
          refine k_iload cx 0 dX8_toLine_71 rfl ?_
          refine k_bipush cx 126 dX8_toLine_73 (by decide) ?_
          refine k_icmp_ne cx 83 dX8_toLine_75 (by decide) (fun c18 => ?_) (fun c18 => ?_)
          · have h := ite_t h c18
            refine k_iload cx 0 dX8_toLine_83 rfl ?_
            refine k_bipush cx 62 dX8_toLine_85 (by decide) ?_
            refine k_icmp_ne cx 96 dX8_toLine_87 (by decide) (fun c19 => ?_) (fun c19 => ?_)
            · have h := ite_t h c19
              refine k_iload cx 0 dX8_toLine_96 rfl ?_
              refine k_bipush cx 47 dX8_toLine_98 (by decide) ?_
              refine k_icmp_ne cx 105 dX8_toLine_100 (by decide) (fun c20 => ?_) (fun c20 => ?_)
              · have h := ite_t h c20
                refine k_sub [1, 2, 3, 4, 5, 6] rfl ?_
                obtain rfl := Option.some.inj h
                exact Kx16
              · have h := ite_f h c20
                refine k_iconst cx 1 dX8_toLine_103 (by decide) ?_
                refine k_istore_n cx (i := 3) [(3, .int 1), (6, .int q12), (0, va_rf (some t)), (1, va_rf (some (hpN σ))), (2, .int v2_18), (4, .int v4_18), (5, .int v5_18)] dX8_toLine_104 rfl (by decide) (by simp [cat_rf, cat_i, cat_j]) ?_
                refine k_sub [2, 3, 4, 0, 5, 6] rfl ?_
                obtain rfl := Option.some.inj h
                exact Kx16
            · have h := ite_f h c19
              refine k_iinc cx 5 [(4, .int (v4_18 + 1)), (6, .int q12), (0, va_rf (some t)), (1, va_rf (some (hpN σ))), (2, .int v2_18), (3, .int v3_18), (5, .int v5_18)] (v4_18 + 1) dX8_toLine_90 rfl rfl (by decide) (by simp [cat_rf, cat_i, cat_j]) ?_
              refine k_goto cx 105 dX8_toLine_93 (by decide) ?_
              refine k_sub [2, 3, 4, 5, 0, 6] rfl ?_
              obtain rfl := Option.some.inj h
              exact Kx16
          · have h := ite_f h c18
            refine k_iconst cx 1 dX8_toLine_78 (by decide) ?_
            refine k_istore_n cx (i := 2) [(2, .int 1), (6, .int q12), (0, va_rf (some t)), (1, va_rf (some (hpN σ))), (3, .int v3_18), (4, .int v4_18), (5, .int v5_18)] dX8_toLine_79 rfl (by decide) (by simp [cat_rf, cat_i, cat_j]) ?_
            refine k_goto cx 105 dX8_toLine_80 (by decide) ?_
            refine k_sub [2, 3, 0, 4, 5, 6] rfl ?_
            obtain rfl := Option.some.inj h
            exact Kx16
        · have h := ite_f h c17
          refine k_aload_n cx 2 dX8_toLine_43 rfl rfl ?_
          refine k_iload cx 0 dX8_toLine_44 rfl ?_
          refine k_aload_n cx 1 dX8_toLine_46 rfl rfl ?_
          refine k_iload cx 6 dX8_toLine_47 rfl ?_
          refine k_iconst cx 1 dX8_toLine_49 (by decide) ?_
          refine k_isub cx dX8_toLine_50 ?_
          obtain ⟨q21, g22, h⟩ := bind_ok h
          refine k_callV cx iv_X8_23 (ci := 8) rfl (by decide) (w_X8_byteAt (dn_some g10).2 g22) g10 (As := [.int (v5_18 - 1)]) rfl rfl ⟨Nat.le_of_ble_eq_true rfl, Nat.le_of_ble_eq_true rfl⟩ (by simp [cat_rf, cat_i, cat_j]) dX8_toLine_51 ?_
          obtain ⟨q23, g24, h⟩ := bind_ok h
          refine k_callSN cx iv_X8_26 (w_X10_isLetter g24) (As := [.int q21]) rfl rfl ⟨Nat.le_of_ble_eq_true rfl, Nat.le_of_ble_eq_true rfl⟩ (by simp [cat_rf, cat_i, cat_j]) dX8_toLine_54 ?_
          obtain ⟨x25, hxx25, h⟩ := bind_ok h
          have Kx25 : Og p l e s m args below meth c Γ 7 2 44 σ (some (va_rf ρ.1)) ρ.2 65 [(0, va_rf (some t)), (1, va_rf (some (hpN σ))), (2, .int v2_18), (3, .int v3_18), (4, .int v4_18), (5, .int v5_18)] [.int x25, .int q12, va_rf (some (hpN σ))] τ18 := by
            obtain ⟨a27, g28, h⟩ := bind_ok h
            obtain ⟨q29, g30, h⟩ := bind_ok h
            refine k_callV cx iv_X8_48 (ci := 9) rfl (by decide) (w_X9_add (dn_some g28).2 g30) g28 (As := [.int q12, .int x25]) rfl rfl ⟨Nat.le_of_ble_eq_true rfl, Nat.le_of_ble_eq_true rfl⟩ (by simp [cat_rf, cat_i, cat_j]) dX8_toLine_65 ?_
            refine k_goto cx 105 dX8_toLine_68 (by decide) ?_
            obtain rfl := Option.some.inj h
            exact Kx16
          have h := hxx25
          refine k_if_ne cx 64 dX8_toLine_57 (by decide) (fun c26 => ?_) (fun c26 => ?_)
          · have h := ite_t h c26
            refine k_iconst cx 0 dX8_toLine_64 (by decide) ?_
            refine k_sub [1, 2, 3, 4, 5, 6] rfl ?_
            obtain rfl := Option.some.inj h
            exact Kx25
          · have h := ite_f h c26
            refine k_iconst cx 1 dX8_toLine_60 (by decide) ?_
            refine k_goto cx 65 dX8_toLine_61 (by decide) ?_
            refine k_sub [1, 2, 3, 4, 5, 6] rfl ?_
            obtain rfl := Option.some.inj h
            exact Kx25
  refine k_sub [5, 4, 3, 2, 1, 0] rfl ?_
  exact KLx8 FU _ _ _ _ _ hxx8
set_option maxRecDepth 100000 in
set_option maxHeartbeats 4000000 in
theorem w_X9_byteAt {Γ : GE} {σ : St} {t : Nat} {p1 : Int32} {ρ : Int32} (hk : hpK σ t = 9) (h : f_X9_byteAt σ t p1 = some ρ) : Ct Γ yX9_byteAt cX9_byteAt 2 (some .int) 0 0 [va_rf (some t), .int p1] σ (some (.int ρ)) σ := by
  refine ct_intro (own := RX9) (L0 := [(0, va_rf (some t)), (1, .int p1)]) (by decide +kernel) rfl (by simp [lg_sl, cat_rf, cat_i, cat_j]) (by simp [lv_args, cat_rf, cat_i, cat_j]) ?_
  intro p l e s m args below meth c hr hlk hin cx
  have hk0 := dn_eq hk
  unfold f_X9_byteAt at h
  refine k_iload_n cx 1 dX9_byteAt_0 rfl rfl ?_
  refine k_if_lt cx 21 dX9_byteAt_1 (by decide) (fun c1 => ?_) (fun c1 => ?_)
  · have h := ite_t h c1
    refine k_iconst cx (-1) dX9_byteAt_21 (by decide) ?_
    refine k_goto cx 31 dX9_byteAt_22 (by decide) ?_
    have h := Option.some.inj h
    exact k_iret cx hr hlk (by rw [← h]) rfl dX9_byteAt_31
  · have h := ite_f h c1
    refine k_iload_n cx 1 dX9_byteAt_4 rfl rfl ?_
    refine k_aload_n cx 0 dX9_byteAt_5 rfl rfl ?_
    refine q_getI cx fl_X9_19 hk0 dX9_byteAt_6 ?_
    refine k_icmp_ge cx 21 dX9_byteAt_9 (by decide) (fun c2 => ?_) (fun c2 => ?_)
    · have h := ite_t h c2
      refine k_iconst cx (-1) dX9_byteAt_21 (by decide) ?_
      refine k_goto cx 31 dX9_byteAt_22 (by decide) ?_
      have h := Option.some.inj h
      exact k_iret cx hr hlk (by rw [← h]) rfl dX9_byteAt_31
    · have h := ite_f h c2
      refine k_iload_n cx 1 dX9_byteAt_12 rfl rfl ?_
      refine k_aload_n cx 0 dX9_byteAt_13 rfl rfl ?_
      refine q_getR cx fl_X9_9 hk0 dX9_byteAt_14 ?_
      obtain ⟨a3, g4, h⟩ := bind_ok h
      refine k_alen cx (by decide) g4 dX9_byteAt_17 ?_
      refine k_icmp_lt cx 25 dX9_byteAt_18 (by decide) (fun c5 => ?_) (fun c5 => ?_)
      · have h := ite_t h c5
        refine k_aload_n cx 0 dX9_byteAt_25 rfl rfl ?_
        refine q_getR cx fl_X9_9 hk0 dX9_byteAt_26 ?_
        refine k_iload_n cx 1 dX9_byteAt_29 rfl rfl ?_
        obtain ⟨j6, g7, h⟩ := bind_ok h
        refine k_bald cx g4 g7 dX9_byteAt_30 ?_
        have h := Option.some.inj h
        exact k_iret cx hr hlk (by rw [← h]) rfl dX9_byteAt_31
      · have h := ite_f h c5
        refine k_iconst cx (-1) dX9_byteAt_21 (by decide) ?_
        refine k_goto cx 31 dX9_byteAt_22 (by decide) ?_
        have h := Option.some.inj h
        exact k_iret cx hr hlk (by rw [← h]) rfl dX9_byteAt_31
set_option maxRecDepth 100000 in
set_option maxHeartbeats 4000000 in
theorem w_X10_init {Γ : GE} {σ : St} {t : Nat} {ρ : St} (hk : hpK σ t = 10) (h : f_X10_init σ t = some ρ) : Ct Γ yX10_init cX10_init 1 none 3 63 [va_rf (some t)] σ none ρ := by
  refine ct_intro (own := RX10) (L0 := [(0, va_rf (some t))]) (by decide +kernel) rfl (by simp [lg_sl, cat_rf, cat_i, cat_j]) (by simp [lv_args, cat_rf, cat_i, cat_j]) ?_
  intro p l e s m args below meth c hr hlk hin cx
  have hk0 := dn_eq hk
  unfold f_X10_init at h
  refine k_aload_n cx 0 dX10_init_0 rfl rfl ?_
  refine k_objInit cx oi_X10_3 oi_i oi_c ⟨Nat.le_of_ble_eq_true rfl, Nat.le_of_ble_eq_true rfl⟩ (by simp [cat_rf, cat_i, cat_j]) dX10_init_1 ?_
  refine k_aload_n cx 0 dX10_init_4 rfl rfl ?_
  obtain ⟨σ1, g2, h⟩ := bind_ok h
  refine k_new cx nw_X10_9 g2 dX10_init_5 ?_
  refine k_dup cx (by simp [cat_rf, cat_i, cat_j]) dX10_init_8 ?_
  obtain ⟨a3, g4, h⟩ := bind_ok h
  obtain ⟨q5, g6, h⟩ := bind_ok h
  refine k_callIN cx iv_X10_11 (w_X8_init (dn_some g4).2 g6) (dn_some g4).1 (As := []) rfl rfl ⟨Nat.le_of_ble_eq_true rfl, Nat.le_of_ble_eq_true rfl⟩ (by simp [cat_rf, cat_i, cat_j]) dX10_init_9 ?_
  obtain ⟨a7, g8, h⟩ := bind_ok h
  refine q_putRF cx pl_X10_12 hin g8 dX10_init_12 ?_
  refine k_aload_n cx 0 dX10_init_15 rfl rfl ?_
  obtain ⟨σ9, g10, h⟩ := bind_ok h
  refine k_new cx nw_X10_16 g10 dX10_init_16 ?_
  refine k_dup cx (by simp [cat_rf, cat_i, cat_j]) dX10_init_19 ?_
  obtain ⟨a11, g12, h⟩ := bind_ok h
  obtain ⟨q13, g14, h⟩ := bind_ok h
  refine k_callI cx iv_X10_18 (w_X5_init (dn_some g12).2 g14) (dn_some g12).1 (As := []) rfl rfl ⟨Nat.le_of_ble_eq_true rfl, Nat.le_of_ble_eq_true rfl⟩ (by simp [cat_rf, cat_i, cat_j]) dX10_init_20 ?_
  obtain ⟨a15, g16, h⟩ := bind_ok h
  refine q_putRF cx pl_X10_19 hin g16 dX10_init_23 ?_
  refine k_aload_n cx 0 dX10_init_26 rfl rfl ?_
  obtain ⟨σ17, g18, h⟩ := bind_ok h
  refine k_new cx nw_X10_23 g18 dX10_init_27 ?_
  refine k_dup cx (by simp [cat_rf, cat_i, cat_j]) dX10_init_30 ?_
  obtain ⟨a19, g20, h⟩ := bind_ok h
  obtain ⟨q21, g22, h⟩ := bind_ok h
  refine k_callI cx iv_X10_25 (w_X0_init (dn_some g20).2 g22) (dn_some g20).1 (As := []) rfl rfl ⟨Nat.le_of_ble_eq_true rfl, Nat.le_of_ble_eq_true rfl⟩ (by simp [cat_rf, cat_i, cat_j]) dX10_init_31 ?_
  obtain ⟨a23, g24, h⟩ := bind_ok h
  refine q_putRF cx pl_X10_26 hin g24 dX10_init_34 ?_
  refine k_aload_n cx 0 dX10_init_37 rfl rfl ?_
  obtain ⟨σ25, g26, h⟩ := bind_ok h
  refine k_new cx nw_X10_30 g26 dX10_init_38 ?_
  refine k_dup cx (by simp [cat_rf, cat_i, cat_j]) dX10_init_41 ?_
  obtain ⟨a27, g28, h⟩ := bind_ok h
  obtain ⟨q29, g30, h⟩ := bind_ok h
  refine k_callIN cx iv_X10_32 (w_X1_init (dn_some g28).2 g30) (dn_some g28).1 (As := []) rfl rfl ⟨Nat.le_of_ble_eq_true rfl, Nat.le_of_ble_eq_true rfl⟩ (by simp [cat_rf, cat_i, cat_j]) dX10_init_42 ?_
  obtain ⟨a31, g32, h⟩ := bind_ok h
  refine q_putRF cx pl_X10_33 hin g32 dX10_init_45 ?_
  refine k_aload_n cx 0 dX10_init_48 rfl rfl ?_
  obtain ⟨σ33, g34, h⟩ := bind_ok h
  refine k_new cx nw_X10_30 g34 dX10_init_49 ?_
  refine k_dup cx (by simp [cat_rf, cat_i, cat_j]) dX10_init_52 ?_
  obtain ⟨a35, g36, h⟩ := bind_ok h
  obtain ⟨q37, g38, h⟩ := bind_ok h
  refine k_callIN cx iv_X10_32 (w_X1_init (dn_some g36).2 g38) (dn_some g36).1 (As := []) rfl rfl ⟨Nat.le_of_ble_eq_true rfl, Nat.le_of_ble_eq_true rfl⟩ (by simp [cat_rf, cat_i, cat_j]) dX10_init_53 ?_
  obtain ⟨a39, g40, h⟩ := bind_ok h
  refine q_putRF cx pl_X10_37 hin g40 dX10_init_56 ?_
  have h := Option.some.inj h
  exact k_vret cx hr hlk rfl (by rw [← h]) dX10_init_59
set_option maxRecDepth 100000 in
set_option maxHeartbeats 4000000 in
theorem w_X10_type {Γ : GE} {σ : St} {t : Nat} {p1 : Int32} {ρ : Int32 × St} (hk : hpK σ t = 10) (h : f_X10_type σ t p1 = some ρ) : Ct Γ yX10_type cX10_type 2 (some .int) 1 21 [va_rf (some t), .int p1] σ (some (.int ρ.1)) ρ.2 := by
  refine ct_intro (own := RX10) (L0 := [(0, va_rf (some t)), (1, .int p1)]) (by decide +kernel) rfl (by simp [lg_sl, cat_rf, cat_i, cat_j]) (by simp [lv_args, cat_rf, cat_i, cat_j]) ?_
  intro p l e s m args below meth c hr hlk hin cx
  have hk0 := dn_eq hk
  unfold f_X10_type at h
  refine k_iload_n cx 1 dX10_type_0 rfl rfl ?_
  refine k_if_lt cx 10 dX10_type_1 (by decide) (fun c1 => ?_) (fun c1 => ?_)
  · have h := ite_t h c1
    refine k_bipush cx (-2) dX10_type_10 (by decide) ?_
    have h := Option.some.inj h
    exact k_iret cx hr hlk (by rw [← h]) (by rw [← h]) dX10_type_12
  · have h := ite_f h c1
    refine k_iload_n cx 1 dX10_type_4 rfl rfl ?_
    refine k_bipush cx 127 dX10_type_5 (by decide) ?_
    refine k_icmp_le cx 13 dX10_type_7 (by decide) (fun c2 => ?_) (fun c2 => ?_)
    · have h := ite_t h c2
      refine k_aload_n cx 0 dX10_type_13 rfl rfl ?_
      refine q_getR cx fl_X10_12 hk0 dX10_type_14 ?_
      obtain ⟨a3, g4, h⟩ := bind_ok h
      refine q_getI cx fl_X10_40 g4 dX10_type_17 ?_
      refine k_bipush cx 80 dX10_type_20 (by decide) ?_
      refine k_icmp_lt cx 28 dX10_type_22 (by decide) (fun c5 => ?_) (fun c5 => ?_)
      · have h := ite_t h c5
        refine k_aload_n cx 0 dX10_type_28 rfl rfl ?_
        refine q_getR cx fl_X10_12 hk0 dX10_type_29 ?_
        refine k_iload_n cx 1 dX10_type_32 rfl rfl ?_
        obtain ⟨q6, g7, h⟩ := bind_ok h
        refine k_callV cx iv_X10_44 (ci := 8) rfl (by decide) (w_X8_append (dn_some g4).2 g7) g4 (As := [.int p1]) rfl rfl ⟨Nat.le_of_ble_eq_true rfl, Nat.le_of_ble_eq_true rfl⟩ (by simp [cat_rf, cat_i, cat_j]) dX10_type_33 ?_
        refine k_aload_n cx 0 dX10_type_36 rfl rfl ?_
        obtain ⟨a8, g9, h⟩ := bind_ok h
        refine q_getR cx fl_X10_12 g9 dX10_type_37 ?_
        obtain ⟨a10, g11, h⟩ := bind_ok h
        refine q_getI cx fl_X10_40 g11 dX10_type_40 ?_
        have h := Option.some.inj h
        exact k_iret cx hr hlk (by rw [← h]) (by rw [← h]) dX10_type_43
      · have h := ite_f h c5
        refine k_bipush cx (-4) dX10_type_25 (by decide) ?_
        have h := Option.some.inj h
        exact k_iret cx hr hlk (by rw [← h]) (by rw [← h]) dX10_type_27
    · have h := ite_f h c2
      refine k_bipush cx (-2) dX10_type_10 (by decide) ?_
      have h := Option.some.inj h
      exact k_iret cx hr hlk (by rw [← h]) (by rw [← h]) dX10_type_12
set_option maxRecDepth 100000 in
set_option maxHeartbeats 4000000 in
theorem w_X10_clear {Γ : GE} {σ : St} {t : Nat} {ρ : Int32 × St} (hk : hpK σ t = 10) (h : f_X10_clear σ t = some ρ) : Ct Γ yX10_clear cX10_clear 2 (some .int) 0 0 [va_rf (some t)] σ (some (.int ρ.1)) ρ.2 := by
  refine ct_intro (own := RX10) (L0 := [(0, va_rf (some t))]) (by decide +kernel) rfl (by simp [lg_sl, cat_rf, cat_i, cat_j]) (by simp [lv_args, cat_rf, cat_i, cat_j]) ?_
  intro p l e s m args below meth c hr hlk hin cx
  have hk0 := dn_eq hk
  unfold f_X10_clear at h
  refine k_aload_n cx 0 dX10_clear_0 rfl rfl ?_
  refine q_getR cx fl_X10_12 hk0 dX10_clear_1 ?_
  obtain ⟨a1, g2, h⟩ := bind_ok h
  refine q_getI cx fl_X10_40 g2 dX10_clear_4 ?_
  refine k_istore_n cx (i := 1) [(1, .int (hpI σ 257 a1)), (0, va_rf (some t))] dX10_clear_7 rfl (by decide) (by simp [cat_rf, cat_i, cat_j]) ?_
  refine k_aload_n cx 1 dX10_clear_8 rfl rfl ?_
  refine q_getR cx fl_X10_12 hk0 dX10_clear_9 ?_
  refine k_iconst cx 0 dX10_clear_12 (by decide) ?_
  refine q_putI cx pl_X10_40 g2 dX10_clear_13 ?_
  refine k_iload_n cx 0 dX10_clear_16 rfl rfl ?_
  have h := Option.some.inj h
  exact k_iret cx hr hlk (by rw [← h]) (by rw [← h]) dX10_clear_17

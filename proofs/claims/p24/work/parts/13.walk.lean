set_option maxRecDepth 100000 in
set_option maxHeartbeats 4000000 in
theorem w_L_cell {Γ : GE} {σ : St} {p1 : Option Nat} {p2 : Int32} {ρ : Int32} (h : f_L_cell σ p1 p2 = some ρ) : Ct Γ yL_cell cL_cell 2 (some .int) 0 0 [va_rf p1, .int p2] σ (some (.int ρ)) σ := by
  refine ct_intro (own := RL) (L0 := [(0, va_rf p1), (1, .int p2)]) (by decide +kernel) rfl (by simp [lg_sl, cat_rf, cat_i, cat_j]) (by simp [lv_args, cat_rf, cat_i, cat_j]) ?_
  intro p l e s m args below meth c hr hlk hin cx
  unfold f_L_cell at h
  refine k_iload_n cx 1 dL_cell_0 rfl rfl ?_
  refine k_aload_n cx 0 dL_cell_1 rfl rfl ?_
  obtain ⟨a1, g2, h⟩ := bind_ok h
  refine k_alenA cx g2 dL_cell_2 ?_
  refine k_icmp_ge cx 12 dL_cell_3 (by decide) (fun c3 => ?_) (fun c3 => ?_)
  · have h := ite_t h c3
    refine k_ldcI cx 1013904223 lc_L_7 dL_cell_12 ?_
    refine k_iload_n cx 1 dL_cell_14 rfl rfl ?_
    refine k_iconst cx 1 dL_cell_15 (by decide) ?_
    refine k_iadd cx dL_cell_16 ?_
    refine k_imul cx dL_cell_17 ?_
    have h := Option.some.inj h
    exact k_iret cx hr hlk (by rw [← h]) rfl dL_cell_18
  · have h := ite_f h c3
    refine k_aload_n cx 0 dL_cell_6 rfl rfl ?_
    refine k_iload_n cx 1 dL_cell_7 rfl rfl ?_
    obtain ⟨j4, g5, h⟩ := bind_ok h
    refine k_iald cx g2 g5 dL_cell_8 ?_
    refine k_goto cx 18 dL_cell_9 (by decide) ?_
    have h := Option.some.inj h
    exact k_iret cx hr hlk (by rw [← h]) rfl dL_cell_18
set_option maxRecDepth 100000 in
set_option maxHeartbeats 4000000 in
theorem w_L_low {Γ : GE} {σ : St} {p1 : Int32} {p2 : Int32} {ρ : Int32} (h : f_L_low σ p1 p2 = some ρ) : Ct Γ yL_low cL_low 2 (some .int) 0 0 [.int p1, .int p2] σ (some (.int ρ)) σ := by
  refine ct_intro (own := RL) (L0 := [(0, .int p1), (1, .int p2)]) (by decide +kernel) rfl (by simp [lg_sl, cat_rf, cat_i, cat_j]) (by simp [lv_args, cat_rf, cat_i, cat_j]) ?_
  intro p l e s m args below meth c hr hlk hin cx
  unfold f_L_low at h
  refine k_iload_n cx 0 dL_low_0 rfl rfl ?_
  refine k_ldcI cx 2147483647 lc_L_8 dL_low_1 ?_
  refine k_iand cx dL_low_3 ?_
  refine k_iload_n cx 1 dL_low_4 rfl rfl ?_
  obtain ⟨w1, g2, h⟩ := bind_ok h
  refine k_irem cx dL_low_5 g2 ?_
  have h := Option.some.inj h
  exact k_iret cx hr hlk (by rw [← h]) rfl dL_low_6
set_option maxRecDepth 100000 in
set_option maxHeartbeats 4000000 in
theorem w_L_begins {Γ : GE} {σ : St} {p1 : Option Nat} {ρ : St} (h : f_L_begins σ p1 = some ρ) : Ct Γ yL_begins cL_begins 1 none 0 0 [va_rf p1] σ none ρ := by
  refine ct_intro (own := RL) (L0 := [(0, va_rf p1)]) (by decide +kernel) rfl (by simp [lg_sl, cat_rf, cat_i, cat_j]) (by simp [lv_args, cat_rf, cat_i, cat_j]) ?_
  intro p l e s m args below meth c hr hlk hin cx
  unfold f_L_begins at h
  refine k_aload_n cx 0 dL_begins_0 rfl rfl ?_
  refine k_iconst cx 0 dL_begins_1 (by decide) ?_
  refine k_bipush cx 30 dL_begins_2 (by decide) ?_
  obtain ⟨a1, g2, h⟩ := bind_ok h
  obtain ⟨j3, g4, h⟩ := bind_ok h
  refine k_iast cx g2 g4 dL_begins_4 ?_
  refine k_aload_n cx 0 dL_begins_5 rfl rfl ?_
  refine k_iconst cx 1 dL_begins_6 (by decide) ?_
  refine k_bipush cx 12 dL_begins_7 (by decide) ?_
  obtain ⟨j5, g6, h⟩ := bind_ok h
  refine k_iast cx g2 g6 dL_begins_9 ?_
  refine k_aload_n cx 0 dL_begins_10 rfl rfl ?_
  refine k_iconst cx 2 dL_begins_11 (by decide) ?_
  refine k_iconst cx 2 dL_begins_12 (by decide) ?_
  obtain ⟨j7, g8, h⟩ := bind_ok h
  refine k_iast cx g2 g8 dL_begins_13 ?_
  refine k_aload_n cx 0 dL_begins_14 rfl rfl ?_
  refine k_iconst cx 3 dL_begins_15 (by decide) ?_
  refine k_iconst cx 4 dL_begins_16 (by decide) ?_
  obtain ⟨j9, g10, h⟩ := bind_ok h
  refine k_iast cx g2 g10 dL_begins_17 ?_
  refine k_aload_n cx 0 dL_begins_18 rfl rfl ?_
  refine k_iconst cx 4 dL_begins_19 (by decide) ?_
  refine k_bipush cx 6 dL_begins_20 (by decide) ?_
  obtain ⟨j11, g12, h⟩ := bind_ok h
  refine k_iast cx g2 g12 dL_begins_22 ?_
  have h := Option.some.inj h
  exact k_vret cx hr hlk rfl (by rw [← h]) dL_begins_23
set_option maxRecDepth 100000 in
set_option maxHeartbeats 4000000 in
theorem w_L_types {Γ : GE} {σ : St} {p1 : Option Nat} {p2 : Option Nat} {p3 : Int32} {p4 : Int32} {p5 : Int32} {ρ : Int32 × St} (h : f_L_types σ p1 p2 p3 p4 p5 = some ρ) : Ct Γ yL_types cL_types 9 (some .boolean) 8 209 [va_rf p1, va_rf p2, .int p3, .int p4, .int p5] σ (some (.int ρ.1)) ρ.2 := by
  refine ct_intro (own := RL) (L0 := [(0, va_rf p1), (1, va_rf p2), (2, .int p3), (3, .int p4), (4, .int p5)]) (by decide +kernel) rfl (by simp [lg_sl, cat_rf, cat_i, cat_j]) (by simp [lv_args, cat_rf, cat_i, cat_j]) ?_
  intro p l e s m args below meth c hr hlk hin cx
  unfold f_L_types at h
  refine k_aload_n cx 0 dL_types_0 rfl rfl ?_
  obtain ⟨a1, g2, h⟩ := bind_ok h
  obtain ⟨q3, g4, h⟩ := bind_ok h
  refine k_callV cx iv_L_9 (ci := 10) rfl (by decide) (w_X10_clear (dn_some g2).2 g4) g2 (As := []) rfl rfl ⟨Nat.le_of_ble_eq_true rfl, Nat.le_of_ble_eq_true rfl⟩ (by simp [cat_rf, cat_i, cat_j]) dL_types_1 ?_
  obtain ⟨x5, hxx5, h⟩ := bind_ok h
  have Kx5 : Og p l e s m args below meth c Γ 9 8 209 σ (some (.int ρ.1)) ρ.2 12 [(0, va_rf p1), (1, va_rf p2), (2, .int p3), (3, .int p4), (4, .int p5)] [.int x5] q3.2 := by
    refine k_istore cx [(5, .int x5), (0, va_rf p1), (1, va_rf p2), (2, .int p3), (3, .int p4), (4, .int p5)] dL_types_12 (by decide) (by simp [cat_rf, cat_i, cat_j]) ?_
    refine k_aload_n cx 2 dL_types_14 rfl rfl ?_
    refine k_bipush cx 10 dL_types_15 (by decide) ?_
    refine k_iload_n cx 3 dL_types_17 rfl rfl ?_
    refine k_imul cx dL_types_18 ?_
    refine k_bipush cx 6 dL_types_19 (by decide) ?_
    refine k_iadd cx dL_types_21 ?_
    refine k_iload_n cx 4 dL_types_22 rfl rfl ?_
    refine k_iconst cx 3 dL_types_23 (by decide) ?_
    obtain ⟨q7, g8, h⟩ := bind_ok h
    refine k_callS cx iv_L_15 (w_L_low g8) (As := [.int p4, .int 3]) rfl rfl ⟨Nat.le_of_ble_eq_true rfl, Nat.le_of_ble_eq_true rfl⟩ (by simp [cat_rf, cat_i, cat_j]) dL_types_24 ?_
    obtain ⟨x9, hxx9, h⟩ := bind_ok h
    have Kx9 : Og p l e s m args below meth c Γ 9 8 209 σ (some (.int ρ.1)) ρ.2 35 [(0, va_rf p1), (1, va_rf p2), (2, .int p3), (3, .int p4), (4, .int p5), (5, .int x5)] [.int x9, .int ((10 * p3) + 6), va_rf p2] q3.2 := by
      obtain ⟨a11, g12, h⟩ := bind_ok h
      obtain ⟨j13, g14, h⟩ := bind_ok h
      refine k_iast cx g12 g14 dL_types_35 ?_
      refine k_aload_n cx 1 dL_types_36 rfl rfl ?_
      refine k_bipush cx 10 dL_types_37 (by decide) ?_
      refine k_iload_n cx 2 dL_types_39 rfl rfl ?_
      refine k_imul cx dL_types_40 ?_
      refine k_iconst cx 5 dL_types_41 (by decide) ?_
      refine k_iadd cx dL_types_42 ?_
      refine k_iload_n cx 3 dL_types_43 rfl rfl ?_
      refine k_iconst cx 2 dL_types_44 (by decide) ?_
      refine k_ishr cx dL_types_45 ?_
      refine k_iconst cx 4 dL_types_46 (by decide) ?_
      obtain ⟨q15, g16, h⟩ := bind_ok h
      refine k_callS cx iv_L_15 (w_L_low g16) (As := [.int (p4 >>> (2 &&& 31)), .int 4]) rfl rfl ⟨Nat.le_of_ble_eq_true rfl, Nat.le_of_ble_eq_true rfl⟩ (by simp [cat_rf, cat_i, cat_j]) dL_types_47 ?_
      obtain ⟨x17, hxx17, h⟩ := bind_ok h
      have Kx17 : Og p l e s m args below meth c Γ 9 8 209 σ (some (.int ρ.1)) ρ.2 65 [(0, va_rf p1), (1, va_rf p2), (2, .int p3), (3, .int p4), (4, .int p5), (5, .int x5)] [.int x17, .int ((10 * p3) + 5), va_rf p2] (stA q3.2 a11 j13 x9) := by
        obtain ⟨j21, g22, h⟩ := bind_ok h
        refine k_iast cx g12 g22 dL_types_65 ?_
        refine k_aload_n cx 1 dL_types_66 rfl rfl ?_
        refine k_bipush cx 10 dL_types_67 (by decide) ?_
        refine k_iload_n cx 2 dL_types_69 rfl rfl ?_
        refine k_imul cx dL_types_70 ?_
        refine k_iconst cx 1 dL_types_71 (by decide) ?_
        refine k_iload_n cx 3 dL_types_72 rfl rfl ?_
        refine k_bipush cx 7 dL_types_73 (by decide) ?_
        refine k_ishr cx dL_types_75 ?_
        refine k_iconst cx 3 dL_types_76 (by decide) ?_
        obtain ⟨q23, g24, h⟩ := bind_ok h
        refine k_callS cx iv_L_15 (w_L_low g24) (As := [.int (p4 >>> (7 &&& 31)), .int 3]) rfl rfl ⟨Nat.le_of_ble_eq_true rfl, Nat.le_of_ble_eq_true rfl⟩ (by simp [cat_rf, cat_i, cat_j]) dL_types_77 ?_
        refine k_iadd cx dL_types_80 ?_
        obtain ⟨j25, g26, h⟩ := bind_ok h
        refine k_iast cx g12 g26 dL_types_81 ?_
        refine k_aload_n cx 1 dL_types_82 rfl rfl ?_
        refine k_bipush cx 10 dL_types_83 (by decide) ?_
        refine k_iload_n cx 2 dL_types_85 rfl rfl ?_
        refine k_imul cx dL_types_86 ?_
        refine k_iconst cx 4 dL_types_87 (by decide) ?_
        refine k_iadd cx dL_types_88 ?_
        refine k_iload_n cx 3 dL_types_89 rfl rfl ?_
        refine k_bipush cx 9 dL_types_90 (by decide) ?_
        refine k_ishr cx dL_types_92 ?_
        refine k_bipush cx 20 dL_types_93 (by decide) ?_
        obtain ⟨q27, g28, h⟩ := bind_ok h
        refine k_callS cx iv_L_15 (w_L_low g28) (As := [.int (p4 >>> (9 &&& 31)), .int 20]) rfl rfl ⟨Nat.le_of_ble_eq_true rfl, Nat.le_of_ble_eq_true rfl⟩ (by simp [cat_rf, cat_i, cat_j]) dL_types_95 ?_
        obtain ⟨j29, g30, h⟩ := bind_ok h
        refine k_iast cx g12 g30 dL_types_98 ?_
        refine k_aload_n cx 1 dL_types_99 rfl rfl ?_
        refine k_bipush cx 10 dL_types_100 (by decide) ?_
        refine k_iload_n cx 2 dL_types_102 rfl rfl ?_
        refine k_imul cx dL_types_103 ?_
        refine k_bipush cx 7 dL_types_104 (by decide) ?_
        refine k_iadd cx dL_types_106 ?_
        refine k_iload_n cx 3 dL_types_107 rfl rfl ?_
        refine k_bipush cx 14 dL_types_108 (by decide) ?_
        refine k_ishr cx dL_types_110 ?_
        refine k_iconst cx 3 dL_types_111 (by decide) ?_
        obtain ⟨q31, g32, h⟩ := bind_ok h
        refine k_callS cx iv_L_15 (w_L_low g32) (As := [.int (p4 >>> (14 &&& 31)), .int 3]) rfl rfl ⟨Nat.le_of_ble_eq_true rfl, Nat.le_of_ble_eq_true rfl⟩ (by simp [cat_rf, cat_i, cat_j]) dL_types_112 ?_
        obtain ⟨x33, hxx33, h⟩ := bind_ok h
        have Kx33 : Og p l e s m args below meth c Γ 9 8 209 σ (some (.int ρ.1)) ρ.2 123 [(0, va_rf p1), (1, va_rf p2), (2, .int p3), (3, .int p4), (4, .int p5), (5, .int x5)] [.int x33, .int ((10 * p3) + 7), va_rf p2] (stA (stA (stA (stA q3.2 a11 j13 x9) a11 j21 x17) a11 j25 (1 + q23)) a11 j29 q27) := by
          obtain ⟨j35, g36, h⟩ := bind_ok h
          refine k_iast cx g12 g36 dL_types_123 ?_
          refine k_iload cx 5 dL_types_124 rfl ?_
          obtain ⟨x37, hxx37, h⟩ := bind_ok h
          have Kx37 : Og p l e s m args below meth c Γ 9 8 209 σ (some (.int ρ.1)) ρ.2 155 [(0, va_rf p1), (1, va_rf p2), (2, .int p3), (3, .int p4), (4, .int p5)] [.int x37.1] x37.2 := by
            refine k_istore cx [(5, .int x37.1), (0, va_rf p1), (1, va_rf p2), (2, .int p3), (3, .int p4), (4, .int p5)] dL_types_155 (by decide) (by simp [cat_rf, cat_i, cat_j]) ?_
            refine k_iconst cx 0 dL_types_157 (by decide) ?_
            refine k_istore cx [(6, .int 0), (5, .int x37.1), (0, va_rf p1), (1, va_rf p2), (2, .int p3), (3, .int p4), (4, .int p5)] dL_types_158 (by decide) (by simp [cat_rf, cat_i, cat_j]) ?_
            obtain ⟨x50, hxx50, h⟩ := bind_ok h
            have Kx50 : Og p l e s m args below meth c Γ 9 8 209 σ (some (.int ρ.1)) ρ.2 219 [(0, va_rf p1), (1, va_rf p2), (2, .int p3), (3, .int p4), (4, .int p5), (5, .int x50.1)] [] x50.2 := by
              refine k_iconst cx 0 dL_types_219 (by decide) ?_
              refine k_istore cx [(6, .int 0), (0, va_rf p1), (1, va_rf p2), (2, .int p3), (3, .int p4), (4, .int p5), (5, .int x50.1)] dL_types_220 (by decide) (by simp [cat_rf, cat_i, cat_j]) ?_
              obtain ⟨x70, hxx70, h⟩ := bind_ok h
              have Kx70 : Og p l e s m args below meth c Γ 9 8 209 σ (some (.int ρ.1)) ρ.2 377 [(0, va_rf p1), (1, va_rf p2), (2, .int p3), (5, .int x70.1)] [] x70.2 := by
                refine k_iload cx 3 dL_types_377 rfl ?_
                refine k_if_eq cx 416 dL_types_379 (by decide) (fun c116 => ?_) (fun c116 => ?_)
                · have h := ite_t h c116
                  refine k_iconst cx 0 dL_types_416 (by decide) ?_
                  have h := Option.some.inj h
                  exact k_zret cx hr hlk gz_0 (by rw [← h]) (by rw [← h]) dL_types_417
                · have h := ite_f h c116
                  refine k_aload_n cx 1 dL_types_382 rfl rfl ?_
                  refine k_bipush cx 10 dL_types_383 (by decide) ?_
                  refine k_iload_n cx 2 dL_types_385 rfl rfl ?_
                  refine k_imul cx dL_types_386 ?_
                  refine k_bipush cx 7 dL_types_387 (by decide) ?_
                  refine k_iadd cx dL_types_389 ?_
                  obtain ⟨a117, g118, h⟩ := bind_ok h
                  obtain ⟨j119, g120, h⟩ := bind_ok h
                  refine k_iald cx g118 g120 dL_types_390 ?_
                  obtain ⟨x121, hxx121, Hx121⟩ := sb_ok h
                  have Kx121 : ∀ wx121 : St, .inr wx121 = x121 → Og p l e s m args below meth c Γ 9 8 209 σ (some (.int ρ.1)) ρ.2 403 [(0, va_rf p1)] [] wx121 := by
                    intro wx121 hw
                    have h := sb_inr hw Hx121
                    refine k_aload_n cx 0 dL_types_403 rfl rfl ?_
                    refine k_iconst cx 0 dL_types_404 (by decide) ?_
                    obtain ⟨a128, g129, h⟩ := bind_ok h
                    obtain ⟨q130, g131, h⟩ := bind_ok h
                    refine k_callV cx iv_L_25 (ci := 10) rfl (by decide) (w_X10_fault (dn_some g129).2 g131) g129 (As := [.int 0]) rfl rfl ⟨Nat.le_of_ble_eq_true rfl, Nat.le_of_ble_eq_true rfl⟩ (by simp [cat_rf, cat_i, cat_j]) dL_types_405 ?_
                    refine k_iconst cx (-1) dL_types_408 (by decide) ?_
                    refine k_icmp_ne cx 416 dL_types_409 (by decide) (fun c132 => ?_) (fun c132 => ?_)
                    · have h := ite_t h c132
                      refine k_iconst cx 0 dL_types_416 (by decide) ?_
                      have h := Option.some.inj h
                      exact k_zret cx hr hlk gz_0 (by rw [← h]) (by rw [← h]) dL_types_417
                    · have h := ite_f h c132
                      refine k_iconst cx 1 dL_types_412 (by decide) ?_
                      refine k_goto cx 417 dL_types_413 (by decide) ?_
                      have h := Option.some.inj h
                      exact k_zret cx hr hlk gz_1 (by rw [← h]) (by rw [← h]) dL_types_417
                  have h := hxx121
                  refine k_if_eq cx 403 dL_types_391 (by decide) (fun c122 => ?_) (fun c122 => ?_)
                  · have h := ite_t h c122
                    refine k_sub [0] rfl ?_
                    exact Kx121 _ (Option.some.inj h)
                  · have h := ite_f h c122
                    refine k_aload_n cx 0 dL_types_394 rfl rfl ?_
                    refine k_bipush cx 47 dL_types_395 (by decide) ?_
                    obtain ⟨a123, g124, h⟩ := bind_ok h
                    obtain ⟨q125, g126, h⟩ := bind_ok h
                    refine k_callV cx iv_L_21 (ci := 10) rfl (by decide) (w_X10_type (dn_some g124).2 g126) g124 (As := [.int 47]) rfl rfl ⟨Nat.le_of_ble_eq_true rfl, Nat.le_of_ble_eq_true rfl⟩ (by simp [cat_rf, cat_i, cat_j]) dL_types_397 ?_
                    refine k_if_le cx 416 dL_types_400 (by decide) (fun c127 => ?_) (fun c127 => ?_)
                    · have h := ite_t h c127
                      refine k_iconst cx 0 dL_types_416 (by decide) ?_
                      have h := Option.some.inj h
                      have h := sb_ret h Hx121
                      exact k_zret cx hr hlk gz_0 (by rw [← h]) (by rw [← h]) dL_types_417
                    · have h := ite_f h c127
                      refine k_sub [0] rfl ?_
                      exact Kx121 _ (Option.some.inj h)
              have KLx70 : ∀ (n : Nat) (v5_222 : Int32) (v6_222 : Int32) (τ222 : St), LL_types_222 n p1 p2 p3 p4 p5 v5_222 v6_222 τ222 = some x70 → Og p l e s m args below meth c Γ 9 8 209 σ (some (.int ρ.1)) ρ.2 222 [(0, va_rf p1), (1, va_rf p2), (2, .int p3), (3, .int p4), (4, .int p5), (5, .int v5_222), (6, .int v6_222)] [] τ222 := by
                intro n
                induction n with
                | zero => intro _ _ _ h; cases (show (none : Option _) = some x70 from h)
                | succ n ihx70 =>
                  intro v5_222 v6_222 τ222 h
                  rw [LL_types_222] at h
                  refine k_iload cx 6 dL_types_222 rfl ?_
                  refine k_aload_n cx 1 dL_types_224 rfl rfl ?_
                  refine k_bipush cx 10 dL_types_225 (by decide) ?_
                  refine k_iload_n cx 2 dL_types_227 rfl rfl ?_
                  refine k_imul cx dL_types_228 ?_
                  obtain ⟨a71, g72, h⟩ := bind_ok h
                  obtain ⟨j73, g74, h⟩ := bind_ok h
                  refine k_iald cx g72 g74 dL_types_229 ?_
                  refine k_icmp_ge cx 377 dL_types_230 (by decide) (fun c75 => ?_) (fun c75 => ?_)
                  · have h := ite_t h c75
                    refine k_sub [0, 1, 2, 5] rfl ?_
                    obtain rfl := Option.some.inj h
                    exact Kx70
                  · have h := ite_f h c75
                    refine k_iconst cx 1 dL_types_233 (by decide) ?_
                    refine k_iload cx 4 dL_types_234 rfl ?_
                    refine k_iconst cx 5 dL_types_236 (by decide) ?_
                    refine k_iload cx 6 dL_types_237 rfl ?_
                    refine k_imul cx dL_types_239 ?_
                    refine k_ishr cx dL_types_240 ?_
                    refine k_iload_n cx 3 dL_types_241 rfl rfl ?_
                    refine k_bipush cx 17 dL_types_242 (by decide) ?_
                    refine k_ishr cx dL_types_244 ?_
                    refine k_iconst cx 3 dL_types_245 (by decide) ?_
                    obtain ⟨q76, g77, h⟩ := bind_ok h
                    refine k_callS cx iv_L_15 (w_L_low g77) (As := [.int (p4 >>> (17 &&& 31)), .int 3]) rfl rfl ⟨Nat.le_of_ble_eq_true rfl, Nat.le_of_ble_eq_true rfl⟩ (by simp [cat_rf, cat_i, cat_j]) dL_types_246 ?_
                    obtain ⟨x78, hxx78, h⟩ := bind_ok h
                    have Kx78 : Og p l e s m args below meth c Γ 9 8 209 σ (some (.int ρ.1)) ρ.2 259 [(0, va_rf p1), (1, va_rf p2), (2, .int p3), (3, .int p4), (4, .int p5), (5, .int v5_222), (6, .int v6_222)] [.int x78, .int (p5 >>> ((5 * v6_222) &&& 31)), .int 1] τ222 := by
                      obtain ⟨q80, g81, h⟩ := bind_ok h
                      refine k_callS cx iv_L_15 (w_L_low g81) (As := [.int (p5 >>> ((5 * v6_222) &&& 31)), .int x78]) rfl rfl ⟨Nat.le_of_ble_eq_true rfl, Nat.le_of_ble_eq_true rfl⟩ (by simp [cat_rf, cat_i, cat_j]) dL_types_259 ?_
                      refine k_iadd cx dL_types_262 ?_
                      refine k_istore cx [(7, .int (1 + q80)), (0, va_rf p1), (1, va_rf p2), (2, .int p3), (3, .int p4), (4, .int p5), (5, .int v5_222), (6, .int v6_222)] dL_types_263 (by decide) (by simp [cat_rf, cat_i, cat_j]) ?_
                      refine k_aload_n cx 2 dL_types_265 rfl rfl ?_
                      refine k_bipush cx 10 dL_types_266 (by decide) ?_
                      refine k_iload_n cx 3 dL_types_268 rfl rfl ?_
                      refine k_imul cx dL_types_269 ?_
                      refine k_iconst cx 1 dL_types_270 (by decide) ?_
                      refine k_iadd cx dL_types_271 ?_
                      refine k_iload cx 7 dL_types_272 rfl ?_
                      refine k_iadd cx dL_types_274 ?_
                      refine k_iload cx 0 dL_types_275 rfl ?_
                      obtain ⟨a82, g83, h⟩ := bind_ok h
                      obtain ⟨j84, g85, h⟩ := bind_ok h
                      refine k_iast cx g83 g85 dL_types_277 ?_
                      refine k_iload cx 6 dL_types_278 rfl ?_
                      obtain ⟨x86, hxx86, h⟩ := bind_ok h
                      have Kx86 : Og p l e s m args below meth c Γ 9 8 209 σ (some (.int ρ.1)) ρ.2 320 [(0, va_rf p1), (1, va_rf p2), (2, .int p3), (3, .int p4), (4, .int p5), (6, .int v6_222), (7, .int (1 + q80))] [.int x86.1] x86.2 := by
                        refine k_istore cx [(5, .int x86.1), (0, va_rf p1), (1, va_rf p2), (2, .int p3), (3, .int p4), (4, .int p5), (6, .int v6_222), (7, .int (1 + q80))] dL_types_320 (by decide) (by simp [cat_rf, cat_i, cat_j]) ?_
                        refine k_iconst cx 0 dL_types_322 (by decide) ?_
                        refine k_istore cx [(8, .int 0), (5, .int x86.1), (0, va_rf p1), (1, va_rf p2), (2, .int p3), (3, .int p4), (4, .int p5), (6, .int v6_222), (7, .int (1 + q80))] dL_types_323 (by decide) (by simp [cat_rf, cat_i, cat_j]) ?_
                        obtain ⟨x103, hxx103, h⟩ := bind_ok h
                        have Kx103 : Og p l e s m args below meth c Γ 9 8 209 σ (some (.int ρ.1)) ρ.2 371 [(0, va_rf p1), (1, va_rf p2), (2, .int p3), (3, .int p4), (4, .int p5), (5, .int x103.1), (6, .int v6_222)] [] x103.2 := by
                          refine k_iinc cx 6 [(6, .int (v6_222 + 1)), (0, va_rf p1), (1, va_rf p2), (2, .int p3), (3, .int p4), (4, .int p5), (5, .int x103.1)] (v6_222 + 1) dL_types_371 rfl rfl (by decide) (by simp [cat_rf, cat_i, cat_j]) ?_
                          refine k_goto cx 222 dL_types_374 (by decide) ?_
                          refine k_sub [1, 2, 3, 4, 5, 6, 0] rfl ?_
                          exact ihx70 _ _ _ h
                        have KLx103 : ∀ (n : Nat) (v5_325 : Int32) (v8_325 : Int32) (τ325 : St), LL_types_325 n p1 p2 p3 p4 p5 v6_222 (1 + q80) v5_325 v8_325 τ325 = some x103 → Og p l e s m args below meth c Γ 9 8 209 σ (some (.int ρ.1)) ρ.2 325 [(0, va_rf p1), (1, va_rf p2), (2, .int p3), (3, .int p4), (4, .int p5), (5, .int v5_325), (6, .int v6_222), (7, .int (1 + q80)), (8, .int v8_325)] [] τ325 := by
                          intro n
                          induction n with
                          | zero => intro _ _ _ h; cases (show (none : Option _) = some x103 from h)
                          | succ n ihx103 =>
                            intro v5_325 v8_325 τ325 h
                            rw [LL_types_325] at h
                            refine k_iload cx 8 dL_types_325 rfl ?_
                            refine k_iload cx 7 dL_types_327 rfl ?_
                            refine k_icmp_ge cx 371 dL_types_329 (by decide) (fun c104 => ?_) (fun c104 => ?_)
                            · have h := ite_t h c104
                              refine k_sub [0, 1, 2, 3, 4, 5, 6] rfl ?_
                              obtain rfl := Option.some.inj h
                              exact Kx103
                            · have h := ite_f h c104
                              refine k_iload cx 5 dL_types_332 rfl ?_
                              obtain ⟨x105, hxx105, h⟩ := bind_ok h
                              have Kx105 : Og p l e s m args below meth c Γ 9 8 209 σ (some (.int ρ.1)) ρ.2 363 [(0, va_rf p1), (1, va_rf p2), (2, .int p3), (3, .int p4), (4, .int p5), (6, .int v6_222), (7, .int (1 + q80)), (8, .int v8_325)] [.int x105.1] x105.2 := by
                                refine k_istore cx [(5, .int x105.1), (0, va_rf p1), (1, va_rf p2), (2, .int p3), (3, .int p4), (4, .int p5), (6, .int v6_222), (7, .int (1 + q80)), (8, .int v8_325)] dL_types_363 (by decide) (by simp [cat_rf, cat_i, cat_j]) ?_
                                refine k_iinc cx 8 [(8, .int (v8_325 + 1)), (5, .int x105.1), (0, va_rf p1), (1, va_rf p2), (2, .int p3), (3, .int p4), (4, .int p5), (6, .int v6_222), (7, .int (1 + q80))] (v8_325 + 1) dL_types_365 rfl rfl (by decide) (by simp [cat_rf, cat_i, cat_j]) ?_
                                refine k_goto cx 325 dL_types_368 (by decide) ?_
                                refine k_sub [2, 3, 4, 5, 6, 1, 7, 8, 0] rfl ?_
                                exact ihx103 _ _ _ h
                              have h := hxx105
                              refine k_if_eq cx 362 dL_types_334 (by decide) (fun c106 => ?_) (fun c106 => ?_)
                              · have h := ite_t h c106
                                refine k_iconst cx 0 dL_types_362 (by decide) ?_
                                refine k_sub [0, 1, 2, 3, 4, 6, 7, 8] rfl ?_
                                obtain rfl := Option.some.inj h
                                exact Kx105
                              · have h := ite_f h c106
                                refine k_aload_n cx 0 dL_types_337 rfl rfl ?_
                                refine k_bipush cx 97 dL_types_338 (by decide) ?_
                                refine k_aload_n cx 1 dL_types_340 rfl rfl ?_
                                refine k_bipush cx 10 dL_types_341 (by decide) ?_
                                refine k_iload_n cx 2 dL_types_343 rfl rfl ?_
                                refine k_imul cx dL_types_344 ?_
                                refine k_iconst cx 4 dL_types_345 (by decide) ?_
                                refine k_iadd cx dL_types_346 ?_
                                obtain ⟨a107, g108, h⟩ := bind_ok h
                                obtain ⟨j109, g110, h⟩ := bind_ok h
                                refine k_iald cx g108 g110 dL_types_347 ?_
                                refine k_iadd cx dL_types_348 ?_
                                refine k_iload cx 6 dL_types_349 rfl ?_
                                refine k_iadd cx dL_types_351 ?_
                                obtain ⟨a111, g112, h⟩ := bind_ok h
                                obtain ⟨q113, g114, h⟩ := bind_ok h
                                refine k_callV cx iv_L_21 (ci := 10) rfl (by decide) (w_X10_type (dn_some g112).2 g114) g112 (As := [.int ((97 + (hpA τ325 a107 j109)) + v6_222)]) rfl rfl ⟨Nat.le_of_ble_eq_true rfl, Nat.le_of_ble_eq_true rfl⟩ (by simp [cat_rf, cat_i, cat_j]) dL_types_352 ?_
                                refine k_if_le cx 362 dL_types_355 (by decide) (fun c115 => ?_) (fun c115 => ?_)
                                · have h := ite_t h c115
                                  refine k_iconst cx 0 dL_types_362 (by decide) ?_
                                  refine k_sub [0, 1, 2, 3, 4, 6, 7, 8] rfl ?_
                                  obtain rfl := Option.some.inj h
                                  exact Kx105
                                · have h := ite_f h c115
                                  refine k_iconst cx 1 dL_types_358 (by decide) ?_
                                  refine k_goto cx 363 dL_types_359 (by decide) ?_
                                  refine k_sub [0, 1, 2, 3, 4, 6, 7, 8] rfl ?_
                                  obtain rfl := Option.some.inj h
                                  exact Kx105
                        refine k_sub [2, 3, 4, 5, 6, 1, 7, 8, 0] rfl ?_
                        exact KLx103 FU _ _ _ hxx103
                      have h := hxx86
                      refine k_if_eq cx 319 dL_types_280 (by decide) (fun c87 => ?_) (fun c87 => ?_)
                      · have h := ite_t h c87
                        refine k_iconst cx 0 dL_types_319 (by decide) ?_
                        refine k_sub [1, 2, 3, 4, 5, 7, 0] rfl ?_
                        obtain rfl := Option.some.inj h
                        exact Kx86
                      · have h := ite_f h c87
                        refine k_aload_n cx 1 dL_types_283 rfl rfl ?_
                        refine k_bipush cx 32 dL_types_284 (by decide) ?_
                        obtain ⟨a88, g89, h⟩ := bind_ok h
                        obtain ⟨q90, g91, h⟩ := bind_ok h
                        refine k_callV cx iv_L_21 (ci := 10) rfl (by decide) (w_X10_type (dn_some g89).2 g91) g89 (As := [.int 32]) rfl rfl ⟨Nat.le_of_ble_eq_true rfl, Nat.le_of_ble_eq_true rfl⟩ (by simp [cat_rf, cat_i, cat_j]) dL_types_286 ?_
                        refine k_if_le cx 319 dL_types_289 (by decide) (fun c92 => ?_) (fun c92 => ?_)
                        · have h := ite_t h c92
                          refine k_iconst cx 0 dL_types_319 (by decide) ?_
                          refine k_sub [1, 2, 3, 4, 5, 7, 0] rfl ?_
                          obtain rfl := Option.some.inj h
                          exact Kx86
                        · have h := ite_f h c92
                          refine k_aload_n cx 1 dL_types_292 rfl rfl ?_
                          refine k_iconst cx 0 dL_types_293 (by decide) ?_
                          obtain ⟨a93, g94, h⟩ := bind_ok h
                          obtain ⟨q95, g96, h⟩ := bind_ok h
                          refine k_callV cx iv_L_25 (ci := 10) rfl (by decide) (w_X10_fault (dn_some g94).2 g96) g94 (As := [.int 0]) rfl rfl ⟨Nat.le_of_ble_eq_true rfl, Nat.le_of_ble_eq_true rfl⟩ (by simp [cat_rf, cat_i, cat_j]) dL_types_294 ?_
                          refine k_iload cx 7 dL_types_297 rfl ?_
                          obtain ⟨x97, hxx97, h⟩ := bind_ok h
                          have Kx97 : Og p l e s m args below meth c Γ 9 8 209 σ (some (.int ρ.1)) ρ.2 312 [(0, va_rf p1), (1, va_rf p2), (2, .int p3), (3, .int p4), (4, .int p5), (6, .int v6_222), (7, .int (1 + q80))] [.int x97, .int q95] q90.2 := by
                            refine k_icmp_ne cx 319 dL_types_312 (by decide) (fun c101 => ?_) (fun c101 => ?_)
                            · have h := ite_t h c101
                              refine k_iconst cx 0 dL_types_319 (by decide) ?_
                              obtain rfl := Option.some.inj h
                              exact Kx86
                            · have h := ite_f h c101
                              refine k_iconst cx 1 dL_types_315 (by decide) ?_
                              refine k_goto cx 320 dL_types_316 (by decide) ?_
                              obtain rfl := Option.some.inj h
                              exact Kx86
                          have h := hxx97
                          refine k_if_ne cx 311 dL_types_299 (by decide) (fun c98 => ?_) (fun c98 => ?_)
                          · have h := ite_t h c98
                            refine k_iconst cx (-1) dL_types_311 (by decide) ?_
                            refine k_sub [1, 2, 3, 4, 5, 7, 0] rfl ?_
                            obtain rfl := Option.some.inj h
                            exact Kx97
                          · have h := ite_f h c98
                            refine k_aload_n cx 1 dL_types_302 rfl rfl ?_
                            refine k_bipush cx 10 dL_types_303 (by decide) ?_
                            obtain ⟨q99, g100, h⟩ := bind_ok h
                            refine k_callV cx iv_L_29 (ci := 10) rfl (by decide) (w_X10_count (dn_some g94).2 g100) g94 (As := [.int 10]) rfl rfl ⟨Nat.le_of_ble_eq_true rfl, Nat.le_of_ble_eq_true rfl⟩ (by simp [cat_rf, cat_i, cat_j]) dL_types_305 ?_
                            refine k_goto cx 312 dL_types_308 (by decide) ?_
                            refine k_sub [1, 2, 3, 4, 5, 7, 0] rfl ?_
                            obtain rfl := Option.some.inj h
                            exact Kx97
                    have h := hxx78
                    refine k_if_ne cx 257 dL_types_249 (by decide) (fun c79 => ?_) (fun c79 => ?_)
                    · have h := ite_t h c79
                      refine k_bipush cx 9 dL_types_257 (by decide) ?_
                      obtain rfl := Option.some.inj h
                      exact Kx78
                    · have h := ite_f h c79
                      refine k_bipush cx 16 dL_types_252 (by decide) ?_
                      refine k_goto cx 259 dL_types_254 (by decide) ?_
                      obtain rfl := Option.some.inj h
                      exact Kx78
              refine k_sub [1, 2, 3, 4, 5, 6, 0] rfl ?_
              exact KLx70 FU _ _ _ hxx70
            have KLx50 : ∀ (n : Nat) (v5_160 : Int32) (v6_160 : Int32) (τ160 : St), LL_types_160 n p1 p2 p3 p4 p5 v5_160 v6_160 τ160 = some x50 → Og p l e s m args below meth c Γ 9 8 209 σ (some (.int ρ.1)) ρ.2 160 [(0, va_rf p1), (1, va_rf p2), (2, .int p3), (3, .int p4), (4, .int p5), (5, .int v5_160), (6, .int v6_160)] [] τ160 := by
              intro n
              induction n with
              | zero => intro _ _ _ h; cases (show (none : Option _) = some x50 from h)
              | succ n ihx50 =>
                intro v5_160 v6_160 τ160 h
                rw [LL_types_160] at h
                refine k_iload cx 6 dL_types_160 rfl ?_
                refine k_aload_n cx 1 dL_types_162 rfl rfl ?_
                refine k_bipush cx 10 dL_types_163 (by decide) ?_
                refine k_iload_n cx 2 dL_types_165 rfl rfl ?_
                refine k_imul cx dL_types_166 ?_
                refine k_iconst cx 5 dL_types_167 (by decide) ?_
                refine k_iadd cx dL_types_168 ?_
                obtain ⟨a51, g52, h⟩ := bind_ok h
                obtain ⟨j53, g54, h⟩ := bind_ok h
                refine k_iald cx g52 g54 dL_types_169 ?_
                refine k_icmp_ge cx 219 dL_types_170 (by decide) (fun c55 => ?_) (fun c55 => ?_)
                · have h := ite_t h c55
                  refine k_sub [0, 1, 2, 3, 4, 5] rfl ?_
                  obtain rfl := Option.some.inj h
                  exact Kx50
                · have h := ite_f h c55
                  refine k_iload cx 5 dL_types_173 rfl ?_
                  obtain ⟨x56, hxx56, h⟩ := bind_ok h
                  have Kx56 : Og p l e s m args below meth c Γ 9 8 209 σ (some (.int ρ.1)) ρ.2 211 [(0, va_rf p1), (1, va_rf p2), (2, .int p3), (3, .int p4), (4, .int p5), (6, .int v6_160)] [.int x56.1] x56.2 := by
                    refine k_istore cx [(5, .int x56.1), (0, va_rf p1), (1, va_rf p2), (2, .int p3), (3, .int p4), (4, .int p5), (6, .int v6_160)] dL_types_211 (by decide) (by simp [cat_rf, cat_i, cat_j]) ?_
                    refine k_iinc cx 6 [(6, .int (v6_160 + 1)), (5, .int x56.1), (0, va_rf p1), (1, va_rf p2), (2, .int p3), (3, .int p4), (4, .int p5)] (v6_160 + 1) dL_types_213 rfl rfl (by decide) (by simp [cat_rf, cat_i, cat_j]) ?_
                    refine k_goto cx 160 dL_types_216 (by decide) ?_
                    refine k_sub [2, 3, 4, 5, 6, 1, 0] rfl ?_
                    exact ihx50 _ _ _ h
                  have h := hxx56
                  refine k_if_eq cx 210 dL_types_175 (by decide) (fun c57 => ?_) (fun c57 => ?_)
                  · have h := ite_t h c57
                    refine k_iconst cx 0 dL_types_210 (by decide) ?_
                    refine k_sub [0, 1, 2, 3, 4, 6] rfl ?_
                    obtain rfl := Option.some.inj h
                    exact Kx56
                  · have h := ite_f h c57
                    refine k_aload_n cx 0 dL_types_178 rfl rfl ?_
                    refine k_bipush cx 62 dL_types_179 (by decide) ?_
                    obtain ⟨a58, g59, h⟩ := bind_ok h
                    obtain ⟨q60, g61, h⟩ := bind_ok h
                    refine k_callV cx iv_L_21 (ci := 10) rfl (by decide) (w_X10_type (dn_some g59).2 g61) g59 (As := [.int 62]) rfl rfl ⟨Nat.le_of_ble_eq_true rfl, Nat.le_of_ble_eq_true rfl⟩ (by simp [cat_rf, cat_i, cat_j]) dL_types_181 ?_
                    refine k_if_le cx 210 dL_types_184 (by decide) (fun c62 => ?_) (fun c62 => ?_)
                    · have h := ite_t h c62
                      refine k_iconst cx 0 dL_types_210 (by decide) ?_
                      refine k_sub [0, 1, 2, 3, 4, 6] rfl ?_
                      obtain rfl := Option.some.inj h
                      exact Kx56
                    · have h := ite_f h c62
                      refine k_iload cx 4 dL_types_187 rfl ?_
                      refine k_iload cx 6 dL_types_189 rfl ?_
                      refine k_ishr cx dL_types_191 ?_
                      refine k_iconst cx 1 dL_types_192 (by decide) ?_
                      refine k_iand cx dL_types_193 ?_
                      refine k_if_eq cx 206 dL_types_194 (by decide) (fun c63 => ?_) (fun c63 => ?_)
                      · have h := ite_t h c63
                        refine k_iconst cx 1 dL_types_206 (by decide) ?_
                        refine k_goto cx 211 dL_types_207 (by decide) ?_
                        refine k_sub [0, 1, 2, 3, 4, 6] rfl ?_
                        obtain rfl := Option.some.inj h
                        exact Kx56
                      · have h := ite_f h c63
                        refine k_aload_n cx 0 dL_types_197 rfl rfl ?_
                        refine k_bipush cx 32 dL_types_198 (by decide) ?_
                        obtain ⟨a64, g65, h⟩ := bind_ok h
                        obtain ⟨q66, g67, h⟩ := bind_ok h
                        refine k_callV cx iv_L_21 (ci := 10) rfl (by decide) (w_X10_type (dn_some g65).2 g67) g65 (As := [.int 32]) rfl rfl ⟨Nat.le_of_ble_eq_true rfl, Nat.le_of_ble_eq_true rfl⟩ (by simp [cat_rf, cat_i, cat_j]) dL_types_200 ?_
                        refine k_if_le cx 210 dL_types_203 (by decide) (fun c68 => ?_) (fun c68 => ?_)
                        · have h := ite_t h c68
                          refine k_iconst cx 0 dL_types_210 (by decide) ?_
                          refine k_sub [0, 1, 2, 3, 4, 6] rfl ?_
                          obtain rfl := Option.some.inj h
                          exact Kx56
                        · have h := ite_f h c68
                          refine k_iconst cx 1 dL_types_206 (by decide) ?_
                          refine k_goto cx 211 dL_types_207 (by decide) ?_
                          refine k_sub [0, 1, 2, 3, 4, 6] rfl ?_
                          obtain rfl := Option.some.inj h
                          exact Kx56
            refine k_sub [2, 3, 4, 5, 6, 1, 0] rfl ?_
            exact KLx50 FU _ _ _ hxx50
          have h := hxx37
          refine k_if_eq cx 154 dL_types_126 (by decide) (fun c38 => ?_) (fun c38 => ?_)
          · have h := ite_t h c38
            refine k_iconst cx 0 dL_types_154 (by decide) ?_
            refine k_sub [0, 1, 2, 3, 4] rfl ?_
            obtain rfl := Option.some.inj h
            exact Kx37
          · have h := ite_f h c38
            refine k_aload_n cx 1 dL_types_129 rfl rfl ?_
            refine k_bipush cx 10 dL_types_130 (by decide) ?_
            refine k_iload_n cx 2 dL_types_132 rfl rfl ?_
            refine k_imul cx dL_types_133 ?_
            refine k_bipush cx 6 dL_types_134 (by decide) ?_
            refine k_iadd cx dL_types_136 ?_
            obtain ⟨a39, g40, h⟩ := bind_ok h
            obtain ⟨j41, g42, h⟩ := bind_ok h
            refine k_iald cx g40 g42 dL_types_137 ?_
            refine k_if_eq cx 150 dL_types_138 (by decide) (fun c43 => ?_) (fun c43 => ?_)
            · have h := ite_t h c43
              refine k_iconst cx 1 dL_types_150 (by decide) ?_
              refine k_goto cx 155 dL_types_151 (by decide) ?_
              refine k_sub [0, 1, 2, 3, 4] rfl ?_
              obtain rfl := Option.some.inj h
              exact Kx37
            · have h := ite_f h c43
              refine k_aload_n cx 0 dL_types_141 rfl rfl ?_
              refine k_bipush cx 126 dL_types_142 (by decide) ?_
              obtain ⟨a44, g45, h⟩ := bind_ok h
              obtain ⟨q46, g47, h⟩ := bind_ok h
              refine k_callV cx iv_L_21 (ci := 10) rfl (by decide) (w_X10_type (dn_some g45).2 g47) g45 (As := [.int 126]) rfl rfl ⟨Nat.le_of_ble_eq_true rfl, Nat.le_of_ble_eq_true rfl⟩ (by simp [cat_rf, cat_i, cat_j]) dL_types_144 ?_
              refine k_if_le cx 154 dL_types_147 (by decide) (fun c48 => ?_) (fun c48 => ?_)
              · have h := ite_t h c48
                refine k_iconst cx 0 dL_types_154 (by decide) ?_
                refine k_sub [0, 1, 2, 3, 4] rfl ?_
                obtain rfl := Option.some.inj h
                exact Kx37
              · have h := ite_f h c48
                refine k_iconst cx 1 dL_types_150 (by decide) ?_
                refine k_goto cx 155 dL_types_151 (by decide) ?_
                refine k_sub [0, 1, 2, 3, 4] rfl ?_
                obtain rfl := Option.some.inj h
                exact Kx37
        have h := hxx33
        refine k_if_ne cx 122 dL_types_115 (by decide) (fun c34 => ?_) (fun c34 => ?_)
        · have h := ite_t h c34
          refine k_iconst cx 0 dL_types_122 (by decide) ?_
          obtain rfl := Option.some.inj h
          exact Kx33
        · have h := ite_f h c34
          refine k_iconst cx 1 dL_types_118 (by decide) ?_
          refine k_goto cx 123 dL_types_119 (by decide) ?_
          obtain rfl := Option.some.inj h
          exact Kx33
      have h := hxx17
      refine k_if_ne cx 64 dL_types_50 (by decide) (fun c18 => ?_) (fun c18 => ?_)
      · have h := ite_t h c18
        refine k_iconst cx 0 dL_types_64 (by decide) ?_
        obtain rfl := Option.some.inj h
        exact Kx17
      · have h := ite_f h c18
        refine k_iload_n cx 3 dL_types_53 rfl rfl ?_
        refine k_iconst cx 4 dL_types_54 (by decide) ?_
        refine k_ishr cx dL_types_55 ?_
        refine k_bipush cx 6 dL_types_56 (by decide) ?_
        obtain ⟨q19, g20, h⟩ := bind_ok h
        refine k_callS cx iv_L_15 (w_L_low g20) (As := [.int (p4 >>> (4 &&& 31)), .int 6]) rfl rfl ⟨Nat.le_of_ble_eq_true rfl, Nat.le_of_ble_eq_true rfl⟩ (by simp [cat_rf, cat_i, cat_j]) dL_types_58 ?_
        refine k_goto cx 65 dL_types_61 (by decide) ?_
        obtain rfl := Option.some.inj h
        exact Kx17
    have h := hxx9
    refine k_if_ne cx 34 dL_types_27 (by decide) (fun c10 => ?_) (fun c10 => ?_)
    · have h := ite_t h c10
      refine k_iconst cx 0 dL_types_34 (by decide) ?_
      refine k_sub [1, 2, 3, 4, 5, 0] rfl ?_
      obtain rfl := Option.some.inj h
      exact Kx9
    · have h := ite_f h c10
      refine k_iconst cx 1 dL_types_30 (by decide) ?_
      refine k_goto cx 35 dL_types_31 (by decide) ?_
      refine k_sub [1, 2, 3, 4, 5, 0] rfl ?_
      obtain rfl := Option.some.inj h
      exact Kx9
  have h := hxx5
  refine k_if_lt cx 11 dL_types_4 (by decide) (fun c6 => ?_) (fun c6 => ?_)
  · have h := ite_t h c6
    refine k_iconst cx 0 dL_types_11 (by decide) ?_
    obtain rfl := Option.some.inj h
    exact Kx5
  · have h := ite_f h c6
    refine k_iconst cx 1 dL_types_7 (by decide) ?_
    refine k_goto cx 12 dL_types_8 (by decide) ?_
    obtain rfl := Option.some.inj h
    exact Kx5
set_option maxRecDepth 100000 in
set_option maxHeartbeats 4000000 in
theorem w_L_inserts {Γ : GE} {σ : St} {p1 : Option Nat} {p2 : Option Nat} {p3 : Int32} {p4 : Int32} {p5 : Int32} {ρ : Int32 × St} (h : f_L_inserts σ p1 p2 p3 p4 p5 = some ρ) : Ct Γ yL_inserts cL_inserts 6 (some .boolean) 9 237 [va_rf p1, va_rf p2, .int p3, .int p4, .int p5] σ (some (.int ρ.1)) ρ.2 := by
  refine ct_intro (own := RL) (L0 := [(0, va_rf p1), (1, va_rf p2), (2, .int p3), (3, .int p4), (4, .int p5)]) (by decide +kernel) rfl (by simp [lg_sl, cat_rf, cat_i, cat_j]) (by simp [lv_args, cat_rf, cat_i, cat_j]) ?_
  intro p l e s m args below meth c hr hlk hin cx
  unfold f_L_inserts at h
  refine k_aload_n cx 1 dL_inserts_0 rfl rfl ?_
  refine k_bipush cx 60 dL_inserts_1 (by decide) ?_
  obtain ⟨a1, g2, h⟩ := bind_ok h
  obtain ⟨j3, g4, h⟩ := bind_ok h
  refine k_iald cx g2 g4 dL_inserts_3 ?_
  refine k_bipush cx 6 dL_inserts_4 (by decide) ?_
  refine k_icmp_ne cx 26 dL_inserts_6 (by decide) (fun c5 => ?_) (fun c5 => ?_)
  · have h := ite_t h c5
    refine k_bipush cx 10 dL_inserts_26 (by decide) ?_
    refine k_aload_n cx 1 dL_inserts_28 rfl rfl ?_
    refine k_bipush cx 60 dL_inserts_29 (by decide) ?_
    obtain ⟨j6, g7, h⟩ := bind_ok h
    refine k_iald cx g2 g7 dL_inserts_31 ?_
    refine k_imul cx dL_inserts_32 ?_
    refine k_iconst cx 1 dL_inserts_33 (by decide) ?_
    refine k_isub cx dL_inserts_34 ?_
    refine k_istore cx [(5, .int ((10 * (hpA σ a1 j6)) - 1)), (0, va_rf p1), (1, va_rf p2), (2, .int p3), (3, .int p4), (4, .int p5)] dL_inserts_35 (by decide) (by simp [cat_rf, cat_i, cat_j]) ?_
    obtain ⟨x9, hxx9, h⟩ := bind_ok h
    have Kx9 : Og p l e s m args below meth c Γ 6 9 237 σ (some (.int ρ.1)) ρ.2 63 [(0, va_rf p1), (1, va_rf p2), (2, .int p3), (3, .int p4), (4, .int p5)] [] x9 := by
      refine k_aload_n cx 1 dL_inserts_63 rfl rfl ?_
      refine k_bipush cx 60 dL_inserts_64 (by decide) ?_
      refine k_dup2 cx (by simp [cat_rf, cat_i, cat_j]) (by simp [cat_rf, cat_i, cat_j]) dL_inserts_66 ?_
      obtain ⟨a19, g20, h⟩ := bind_ok h
      obtain ⟨j21, g22, h⟩ := bind_ok h
      refine k_iald cx g20 g22 dL_inserts_67 ?_
      refine k_iconst cx 1 dL_inserts_68 (by decide) ?_
      refine k_iadd cx dL_inserts_69 ?_
      obtain ⟨a23, g24, h⟩ := bind_ok h
      obtain ⟨j25, g26, h⟩ := bind_ok h
      refine k_iast cx g24 g26 dL_inserts_70 ?_
      refine k_aload_n cx 0 dL_inserts_71 rfl rfl ?_
      refine k_aload_n cx 1 dL_inserts_72 rfl rfl ?_
      refine k_iload_n cx 2 dL_inserts_73 rfl rfl ?_
      refine k_iload_n cx 3 dL_inserts_74 rfl rfl ?_
      refine k_iload cx 4 dL_inserts_75 rfl ?_
      obtain ⟨q27, g28, h⟩ := bind_ok h
      refine k_callS cx iv_L_35 (w_L_types g28) (As := [va_rf p1, va_rf p2, .int p3, .int p4, .int p5]) rfl rfl ⟨Nat.le_of_ble_eq_true rfl, Nat.le_of_ble_eq_true rfl⟩ (by simp [cat_rf, cat_i, cat_j]) dL_inserts_77 ?_
      refine k_if_eq cx 99 dL_inserts_80 (by decide) (fun c29 => ?_) (fun c29 => ?_)
      · have h := ite_t h c29
        refine k_iconst cx 0 dL_inserts_99 (by decide) ?_
        have h := Option.some.inj h
        exact k_zret cx hr hlk gz_0 (by rw [← h]) (by rw [← h]) dL_inserts_100
      · have h := ite_f h c29
        refine k_aload_n cx 0 dL_inserts_83 rfl rfl ?_
        refine k_iload_n cx 2 dL_inserts_84 rfl rfl ?_
        obtain ⟨a30, g31, h⟩ := bind_ok h
        obtain ⟨q32, g33, h⟩ := bind_ok h
        refine k_callV cx iv_L_32 (ci := 10) rfl (by decide) (w_X10_insert (dn_some g31).2 g33) g31 (As := [.int p3]) rfl rfl ⟨Nat.le_of_ble_eq_true rfl, Nat.le_of_ble_eq_true rfl⟩ (by simp [cat_rf, cat_i, cat_j]) dL_inserts_85 ?_
        refine k_aload_n cx 1 dL_inserts_88 rfl rfl ?_
        refine k_bipush cx 60 dL_inserts_89 (by decide) ?_
        obtain ⟨a34, g35, h⟩ := bind_ok h
        obtain ⟨j36, g37, h⟩ := bind_ok h
        refine k_iald cx g35 g37 dL_inserts_91 ?_
        refine k_icmp_ne cx 99 dL_inserts_92 (by decide) (fun c38 => ?_) (fun c38 => ?_)
        · have h := ite_t h c38
          refine k_iconst cx 0 dL_inserts_99 (by decide) ?_
          have h := Option.some.inj h
          exact k_zret cx hr hlk gz_0 (by rw [← h]) (by rw [← h]) dL_inserts_100
        · have h := ite_f h c38
          refine k_iconst cx 1 dL_inserts_95 (by decide) ?_
          refine k_goto cx 100 dL_inserts_96 (by decide) ?_
          have h := Option.some.inj h
          exact k_zret cx hr hlk gz_1 (by rw [← h]) (by rw [← h]) dL_inserts_100
    have KLx9 : ∀ (n : Nat) (v5_37 : Int32) (τ37 : St), LL_inserts_37 n p1 p2 p3 p4 p5 v5_37 τ37 = some x9 → Og p l e s m args below meth c Γ 6 9 237 σ (some (.int ρ.1)) ρ.2 37 [(0, va_rf p1), (1, va_rf p2), (2, .int p3), (3, .int p4), (4, .int p5), (5, .int v5_37)] [] τ37 := by
      intro n
      induction n with
      | zero => intro _ _ h; cases (show (none : Option _) = some x9 from h)
      | succ n ihx9 =>
        intro v5_37 τ37 h
        rw [LL_inserts_37] at h
        refine k_iload cx 5 dL_inserts_37 rfl ?_
        refine k_bipush cx 10 dL_inserts_39 (by decide) ?_
        refine k_iload_n cx 2 dL_inserts_41 rfl rfl ?_
        refine k_imul cx dL_inserts_42 ?_
        refine k_icmp_lt cx 63 dL_inserts_43 (by decide) (fun c10 => ?_) (fun c10 => ?_)
        · have h := ite_t h c10
          refine k_sub [0, 1, 2, 3, 4] rfl ?_
          obtain rfl := Option.some.inj h
          exact Kx9
        · have h := ite_f h c10
          refine k_aload_n cx 1 dL_inserts_46 rfl rfl ?_
          refine k_iload cx 5 dL_inserts_47 rfl ?_
          refine k_bipush cx 10 dL_inserts_49 (by decide) ?_
          refine k_iadd cx dL_inserts_51 ?_
          refine k_aload_n cx 1 dL_inserts_52 rfl rfl ?_
          refine k_iload cx 5 dL_inserts_53 rfl ?_
          obtain ⟨a11, g12, h⟩ := bind_ok h
          obtain ⟨j13, g14, h⟩ := bind_ok h
          refine k_iald cx g12 g14 dL_inserts_55 ?_
          obtain ⟨a15, g16, h⟩ := bind_ok h
          obtain ⟨j17, g18, h⟩ := bind_ok h
          refine k_iast cx g16 g18 dL_inserts_56 ?_
          refine k_iinc cx 5 [(5, .int (v5_37 + (-1))), (0, va_rf p1), (1, va_rf p2), (2, .int p3), (3, .int p4), (4, .int p5)] (v5_37 + (-1)) dL_inserts_57 rfl rfl (by decide) (by simp [cat_rf, cat_i, cat_j]) ?_
          refine k_goto cx 37 dL_inserts_60 (by decide) ?_
          refine k_sub [1, 2, 3, 4, 5, 0] rfl ?_
          exact ihx9 _ _ h
    refine k_sub [1, 2, 3, 4, 5, 0] rfl ?_
    exact KLx9 FU _ _ hxx9
  · have h := ite_f h c5
    refine k_aload_n cx 0 dL_inserts_9 rfl rfl ?_
    refine k_bipush cx 7 dL_inserts_10 (by decide) ?_
    obtain ⟨a39, g40, h⟩ := bind_ok h
    obtain ⟨q41, g42, h⟩ := bind_ok h
    refine k_callV cx iv_L_32 (ci := 10) rfl (by decide) (w_X10_insert (dn_some g40).2 g42) g40 (As := [.int 7]) rfl rfl ⟨Nat.le_of_ble_eq_true rfl, Nat.le_of_ble_eq_true rfl⟩ (by simp [cat_rf, cat_i, cat_j]) dL_inserts_12 ?_
    refine k_bipush cx (-2) dL_inserts_15 (by decide) ?_
    refine k_icmp_ne cx 24 dL_inserts_17 (by decide) (fun c43 => ?_) (fun c43 => ?_)
    · have h := ite_t h c43
      refine k_iconst cx 0 dL_inserts_24 (by decide) ?_
      have h := Option.some.inj h
      exact k_zret cx hr hlk gz_0 (by rw [← h]) (by rw [← h]) dL_inserts_25
    · have h := ite_f h c43
      refine k_iconst cx 1 dL_inserts_20 (by decide) ?_
      refine k_goto cx 25 dL_inserts_21 (by decide) ?_
      have h := Option.some.inj h
      exact k_zret cx hr hlk gz_1 (by rw [← h]) (by rw [← h]) dL_inserts_25
set_option maxRecDepth 100000 in
set_option maxHeartbeats 4000000 in
theorem w_L_sets {Γ : GE} {σ : St} {p1 : Option Nat} {p2 : Option Nat} {p3 : Int32} {ρ : Int32 × St} (h : f_L_sets σ p1 p2 p3 = some ρ) : Ct Γ yL_sets cL_sets 7 (some .boolean) 8 192 [va_rf p1, va_rf p2, .int p3] σ (some (.int ρ.1)) ρ.2 := by
  refine ct_intro (own := RL) (L0 := [(0, va_rf p1), (1, va_rf p2), (2, .int p3)]) (by decide +kernel) rfl (by simp [lg_sl, cat_rf, cat_i, cat_j]) (by simp [lv_args, cat_rf, cat_i, cat_j]) ?_
  intro p l e s m args below meth c hr hlk hin cx
  unfold f_L_sets at h
  refine k_iload_n cx 2 dL_sets_0 rfl rfl ?_
  refine k_iconst cx 5 dL_sets_1 (by decide) ?_
  obtain ⟨q1, g2, h⟩ := bind_ok h
  refine k_callS cx iv_L_15 (w_L_low g2) (As := [.int p3, .int 5]) rfl rfl ⟨Nat.le_of_ble_eq_true rfl, Nat.le_of_ble_eq_true rfl⟩ (by simp [cat_rf, cat_i, cat_j]) dL_sets_2 ?_
  refine k_istore_n cx (i := 3) [(3, .int q1), (0, va_rf p1), (1, va_rf p2), (2, .int p3)] dL_sets_5 rfl (by decide) (by simp [cat_rf, cat_i, cat_j]) ?_
  refine k_iload_n cx 0 dL_sets_6 rfl rfl ?_
  obtain ⟨x3, hxx3, h⟩ := bind_ok h
  have Kx3 : Og p l e s m args below meth c Γ 7 8 192 σ (some (.int ρ.1)) ρ.2 25 [(0, va_rf p1), (1, va_rf p2), (2, .int p3), (3, .int q1)] [.int x3] σ := by
    refine k_istore cx [(4, .int x3), (0, va_rf p1), (1, va_rf p2), (2, .int p3), (3, .int q1)] dL_sets_25 (by decide) (by simp [cat_rf, cat_i, cat_j]) ?_
    refine k_iload_n cx 4 dL_sets_27 rfl rfl ?_
    obtain ⟨x6, hxx6, h⟩ := bind_ok h
    have Kx6 : Og p l e s m args below meth c Γ 7 8 192 σ (some (.int ρ.1)) ρ.2 58 [(0, va_rf p1), (1, va_rf p2), (2, .int p3), (3, .int q1), (4, .int x3)] [.int x6] σ := by
      refine k_istore cx [(5, .int x6), (0, va_rf p1), (1, va_rf p2), (2, .int p3), (3, .int q1), (4, .int x3)] dL_sets_58 (by decide) (by simp [cat_rf, cat_i, cat_j]) ?_
      refine k_aload_n cx 2 dL_sets_60 rfl rfl ?_
      refine k_iload_n cx 4 dL_sets_61 rfl rfl ?_
      obtain ⟨a10, g11, h⟩ := bind_ok h
      obtain ⟨j12, g13, h⟩ := bind_ok h
      refine k_iald cx g11 g13 dL_sets_62 ?_
      refine k_istore cx [(6, .int (hpA σ a10 j12)), (5, .int x6), (0, va_rf p1), (1, va_rf p2), (2, .int p3), (3, .int q1), (4, .int x3)] dL_sets_63 (by decide) (by simp [cat_rf, cat_i, cat_j]) ?_
      refine k_aload_n cx 3 dL_sets_65 rfl rfl ?_
      refine k_iload_n cx 5 dL_sets_66 rfl rfl ?_
      refine k_iload cx 6 dL_sets_67 rfl ?_
      refine k_iload_n cx 4 dL_sets_69 rfl rfl ?_
      refine k_iconst cx 3 dL_sets_70 (by decide) ?_
      refine k_ishr cx dL_sets_71 ?_
      refine k_iload cx 1 dL_sets_72 rfl ?_
      refine k_iload cx 6 dL_sets_74 rfl ?_
      refine k_isub cx dL_sets_76 ?_
      refine k_iconst cx 1 dL_sets_77 (by decide) ?_
      refine k_iadd cx dL_sets_78 ?_
      obtain ⟨q14, g15, h⟩ := bind_ok h
      refine k_callS cx iv_L_15 (w_L_low g15) (As := [.int (p3 >>> (3 &&& 31)), .int ((x6 - x3) + 1)]) rfl rfl ⟨Nat.le_of_ble_eq_true rfl, Nat.le_of_ble_eq_true rfl⟩ (by simp [cat_rf, cat_i, cat_j]) dL_sets_79 ?_
      refine k_iadd cx dL_sets_82 ?_
      obtain ⟨a16, g17, h⟩ := bind_ok h
      obtain ⟨j18, g19, h⟩ := bind_ok h
      refine k_iast cx g17 g19 dL_sets_83 ?_
      refine k_aload_n cx 2 dL_sets_84 rfl rfl ?_
      refine k_iload_n cx 5 dL_sets_85 rfl rfl ?_
      refine k_aload_n cx 3 dL_sets_86 rfl rfl ?_
      refine k_iload_n cx 5 dL_sets_87 rfl rfl ?_
      obtain ⟨j20, g21, h⟩ := bind_ok h
      refine k_iald cx g11 g21 dL_sets_88 ?_
      obtain ⟨a22, g23, h⟩ := bind_ok h
      obtain ⟨q24, g25, h⟩ := bind_ok h
      refine k_callV cx iv_L_39 (ci := 10) rfl (by decide) (w_X10_set (dn_some g23).2 g25) g23 (As := [.int q1, .int (hpA (stA σ a16 j18 (x3 + q14)) a10 j20)]) rfl rfl ⟨Nat.le_of_ble_eq_true rfl, Nat.le_of_ble_eq_true rfl⟩ (by simp [cat_rf, cat_i, cat_j]) dL_sets_89 ?_
      refine k_iload cx 0 dL_sets_92 rfl ?_
      refine k_icmp_ne cx 141 dL_sets_94 (by decide) (fun c26 => ?_) (fun c26 => ?_)
      · have h := ite_t h c26
        refine k_iconst cx 0 dL_sets_141 (by decide) ?_
        have h := Option.some.inj h
        exact k_zret cx hr hlk gz_0 (by rw [← h]) (by rw [← h]) dL_sets_142
      · have h := ite_f h c26
        refine k_aload_n cx 2 dL_sets_97 rfl rfl ?_
        refine k_iload_n cx 5 dL_sets_98 rfl rfl ?_
        refine k_iload cx 1 dL_sets_99 rfl ?_
        refine k_iconst cx 1 dL_sets_101 (by decide) ?_
        refine k_iadd cx dL_sets_102 ?_
        obtain ⟨a27, g28, h⟩ := bind_ok h
        obtain ⟨q29, g30, h⟩ := bind_ok h
        refine k_callV cx iv_L_39 (ci := 10) rfl (by decide) (w_X10_set (dn_some g28).2 g30) g28 (As := [.int q1, .int (x6 + 1)]) rfl rfl ⟨Nat.le_of_ble_eq_true rfl, Nat.le_of_ble_eq_true rfl⟩ (by simp [cat_rf, cat_i, cat_j]) dL_sets_103 ?_
        refine k_bipush cx (-2) dL_sets_106 (by decide) ?_
        refine k_icmp_ne cx 141 dL_sets_108 (by decide) (fun c31 => ?_) (fun c31 => ?_)
        · have h := ite_t h c31
          refine k_iconst cx 0 dL_sets_141 (by decide) ?_
          have h := Option.some.inj h
          exact k_zret cx hr hlk gz_0 (by rw [← h]) (by rw [← h]) dL_sets_142
        · have h := ite_f h c31
          refine k_aload_n cx 2 dL_sets_111 rfl rfl ?_
          refine k_iload_n cx 5 dL_sets_112 rfl rfl ?_
          refine k_iload cx 6 dL_sets_113 rfl ?_
          refine k_iconst cx 1 dL_sets_115 (by decide) ?_
          refine k_isub cx dL_sets_116 ?_
          obtain ⟨a32, g33, h⟩ := bind_ok h
          obtain ⟨q34, g35, h⟩ := bind_ok h
          refine k_callV cx iv_L_39 (ci := 10) rfl (by decide) (w_X10_set (dn_some g33).2 g35) g33 (As := [.int q1, .int (x3 - 1)]) rfl rfl ⟨Nat.le_of_ble_eq_true rfl, Nat.le_of_ble_eq_true rfl⟩ (by simp [cat_rf, cat_i, cat_j]) dL_sets_117 ?_
          refine k_bipush cx (-2) dL_sets_120 (by decide) ?_
          refine k_icmp_ne cx 141 dL_sets_122 (by decide) (fun c36 => ?_) (fun c36 => ?_)
          · have h := ite_t h c36
            refine k_iconst cx 0 dL_sets_141 (by decide) ?_
            have h := Option.some.inj h
            exact k_zret cx hr hlk gz_0 (by rw [← h]) (by rw [← h]) dL_sets_142
          · have h := ite_f h c36
            refine k_aload_n cx 2 dL_sets_125 rfl rfl ?_
            refine k_iconst cx 5 dL_sets_126 (by decide) ?_
            refine k_bipush cx 10 dL_sets_127 (by decide) ?_
            obtain ⟨a37, g38, h⟩ := bind_ok h
            obtain ⟨q39, g40, h⟩ := bind_ok h
            refine k_callV cx iv_L_39 (ci := 10) rfl (by decide) (w_X10_set (dn_some g38).2 g40) g38 (As := [.int 5, .int 10]) rfl rfl ⟨Nat.le_of_ble_eq_true rfl, Nat.le_of_ble_eq_true rfl⟩ (by simp [cat_rf, cat_i, cat_j]) dL_sets_129 ?_
            refine k_bipush cx (-2) dL_sets_132 (by decide) ?_
            refine k_icmp_ne cx 141 dL_sets_134 (by decide) (fun c41 => ?_) (fun c41 => ?_)
            · have h := ite_t h c41
              refine k_iconst cx 0 dL_sets_141 (by decide) ?_
              have h := Option.some.inj h
              exact k_zret cx hr hlk gz_0 (by rw [← h]) (by rw [← h]) dL_sets_142
            · have h := ite_f h c41
              refine k_iconst cx 1 dL_sets_137 (by decide) ?_
              refine k_goto cx 142 dL_sets_138 (by decide) ?_
              have h := Option.some.inj h
              exact k_zret cx hr hlk gz_1 (by rw [← h]) (by rw [← h]) dL_sets_142
    have h := hxx6
    refine k_if_ne cx 36 dL_sets_28 (by decide) (fun c7 => ?_) (fun c7 => ?_)
    · have h := ite_t h c7
      refine k_iload_n cx 4 dL_sets_36 rfl rfl ?_
      refine k_iconst cx 2 dL_sets_37 (by decide) ?_
      refine k_icmp_ne cx 46 dL_sets_38 (by decide) (fun c8 => ?_) (fun c8 => ?_)
      · have h := ite_t h c8
        refine k_iload_n cx 4 dL_sets_46 rfl rfl ?_
        refine k_iconst cx 3 dL_sets_47 (by decide) ?_
        refine k_icmp_ne cx 56 dL_sets_48 (by decide) (fun c9 => ?_) (fun c9 => ?_)
        · have h := ite_t h c9
          refine k_bipush cx 30 dL_sets_56 (by decide) ?_
          refine k_sub [1, 2, 3, 4, 0] rfl ?_
          obtain rfl := Option.some.inj h
          exact Kx6
        · have h := ite_f h c9
          refine k_bipush cx 8 dL_sets_51 (by decide) ?_
          refine k_goto cx 58 dL_sets_53 (by decide) ?_
          refine k_sub [1, 2, 3, 4, 0] rfl ?_
          obtain rfl := Option.some.inj h
          exact Kx6
      · have h := ite_f h c8
        refine k_bipush cx 6 dL_sets_41 (by decide) ?_
        refine k_goto cx 58 dL_sets_43 (by decide) ?_
        refine k_sub [1, 2, 3, 4, 0] rfl ?_
        obtain rfl := Option.some.inj h
        exact Kx6
    · have h := ite_f h c7
      refine k_bipush cx 60 dL_sets_31 (by decide) ?_
      refine k_goto cx 58 dL_sets_33 (by decide) ?_
      refine k_sub [1, 2, 3, 4, 0] rfl ?_
      obtain rfl := Option.some.inj h
      exact Kx6
  have h := hxx3
  refine k_if_ne cx 15 dL_sets_7 (by decide) (fun c4 => ?_) (fun c4 => ?_)
  · have h := ite_t h c4
    refine k_iload_n cx 0 dL_sets_15 rfl rfl ?_
    refine k_iconst cx 1 dL_sets_16 (by decide) ?_
    refine k_icmp_ne cx 24 dL_sets_17 (by decide) (fun c5 => ?_) (fun c5 => ?_)
    · have h := ite_t h c5
      refine k_iconst cx 0 dL_sets_24 (by decide) ?_
      refine k_sub [1, 2, 3, 0] rfl ?_
      obtain rfl := Option.some.inj h
      exact Kx3
    · have h := ite_f h c5
      refine k_iconst cx 4 dL_sets_20 (by decide) ?_
      refine k_goto cx 25 dL_sets_21 (by decide) ?_
      refine k_sub [1, 2, 3, 0] rfl ?_
      obtain rfl := Option.some.inj h
      exact Kx3
  · have h := ite_f h c4
    refine k_bipush cx 12 dL_sets_10 (by decide) ?_
    refine k_goto cx 25 dL_sets_12 (by decide) ?_
    refine k_sub [1, 2, 3, 0] rfl ?_
    obtain rfl := Option.some.inj h
    exact Kx3
set_option maxRecDepth 100000 in
set_option maxHeartbeats 4000000 in
theorem w_L_isFirst {Γ : GE} {σ : St} {p1 : Option Nat} {p2 : Int32} {ρ : Int32} (h : f_L_isFirst σ p1 p2 = some ρ) : Ct Γ yL_isFirst cL_isFirst 2 (some .boolean) 0 0 [va_rf p1, .int p2] σ (some (.int ρ)) σ := by
  refine ct_intro (own := RL) (L0 := [(0, va_rf p1), (1, .int p2)]) (by decide +kernel) rfl (by simp [lg_sl, cat_rf, cat_i, cat_j]) (by simp [lv_args, cat_rf, cat_i, cat_j]) ?_
  intro p l e s m args below meth c hr hlk hin cx
  unfold f_L_isFirst at h
  refine k_iload_n cx 1 dL_isFirst_0 rfl rfl ?_
  refine k_if_eq cx 16 dL_isFirst_1 (by decide) (fun c1 => ?_) (fun c1 => ?_)
  · have h := ite_t h c1
    refine k_iconst cx 1 dL_isFirst_16 (by decide) ?_
    refine k_goto cx 21 dL_isFirst_17 (by decide) ?_
    have h := Option.some.inj h
    exact k_zret cx hr hlk gz_1 (by rw [← h]) rfl dL_isFirst_21
  · have h := ite_f h c1
    refine k_aload_n cx 0 dL_isFirst_4 rfl rfl ?_
    refine k_bipush cx 10 dL_isFirst_5 (by decide) ?_
    refine k_iload_n cx 1 dL_isFirst_7 rfl rfl ?_
    refine k_imul cx dL_isFirst_8 ?_
    refine k_iconst cx 3 dL_isFirst_9 (by decide) ?_
    refine k_isub cx dL_isFirst_10 ?_
    obtain ⟨a2, g3, h⟩ := bind_ok h
    obtain ⟨j4, g5, h⟩ := bind_ok h
    refine k_iald cx g3 g5 dL_isFirst_11 ?_
    refine k_iconst cx 1 dL_isFirst_12 (by decide) ?_
    refine k_icmp_ne cx 20 dL_isFirst_13 (by decide) (fun c6 => ?_) (fun c6 => ?_)
    · have h := ite_t h c6
      refine k_iconst cx 0 dL_isFirst_20 (by decide) ?_
      have h := Option.some.inj h
      exact k_zret cx hr hlk gz_0 (by rw [← h]) rfl dL_isFirst_21
    · have h := ite_f h c6
      refine k_iconst cx 1 dL_isFirst_16 (by decide) ?_
      refine k_goto cx 21 dL_isFirst_17 (by decide) ?_
      have h := Option.some.inj h
      exact k_zret cx hr hlk gz_1 (by rw [← h]) rfl dL_isFirst_21
set_option maxRecDepth 100000 in
set_option maxHeartbeats 4000000 in
theorem w_L_comes {Γ : GE} {σ : St} {p1 : Option Nat} {p2 : Option Nat} {p3 : Int32} {p4 : Int32} {p5 : Int32} {p6 : Int32} {p7 : Int32} {ρ : St} (h : f_L_comes σ p1 p2 p3 p4 p5 p6 p7 = some ρ) : Ct Γ yL_comes cL_comes 8 none 0 0 [va_rf p1, va_rf p2, .int p3, .int p4, .int p5, .int p6, .int p7] σ none ρ := by
  refine ct_intro (own := RL) (L0 := [(0, va_rf p1), (1, va_rf p2), (2, .int p3), (3, .int p4), (4, .int p5), (5, .int p6), (6, .int p7)]) (by decide +kernel) rfl (by simp [lg_sl, cat_rf, cat_i, cat_j]) (by simp [lv_args, cat_rf, cat_i, cat_j]) ?_
  intro p l e s m args below meth c hr hlk hin cx
  unfold f_L_comes at h
  refine k_iload cx 4 dL_comes_0 rfl ?_
  refine k_aload_n cx 1 dL_comes_2 rfl rfl ?_
  refine k_iconst cx 0 dL_comes_3 (by decide) ?_
  obtain ⟨a1, g2, h⟩ := bind_ok h
  obtain ⟨j3, g4, h⟩ := bind_ok h
  refine k_iald cx g2 g4 dL_comes_4 ?_
  refine k_bipush cx 6 dL_comes_5 (by decide) ?_
  refine k_isub cx dL_comes_7 ?_
  obtain ⟨x5, hxx5, h⟩ := bind_ok h
  have Kx5 : Og p l e s m args below meth c Γ 8 0 0 σ none ρ 22 [(0, va_rf p1), (2, .int p3), (3, .int p4), (5, .int p6), (6, .int p7)] [.int x5] σ := by
    refine k_istore cx [(7, .int x5), (0, va_rf p1), (2, .int p3), (3, .int p4), (5, .int p6), (6, .int p7)] dL_comes_22 (by decide) (by simp [cat_rf, cat_i, cat_j]) ?_
    refine k_aload_n cx 1 dL_comes_24 rfl rfl ?_
    refine k_aload_n cx 1 dL_comes_25 rfl rfl ?_
    refine k_bipush cx 63 dL_comes_26 (by decide) ?_
    obtain ⟨a9, g10, h⟩ := bind_ok h
    obtain ⟨j11, g12, h⟩ := bind_ok h
    refine k_iald cx g10 g12 dL_comes_28 ?_
    refine k_iload_n cx 2 dL_comes_29 rfl rfl ?_
    refine k_iload_n cx 3 dL_comes_30 rfl rfl ?_
    refine k_iconst cx 4 dL_comes_31 (by decide) ?_
    refine k_ishl cx dL_comes_32 ?_
    refine k_ior cx dL_comes_33 ?_
    refine k_iload cx 0 dL_comes_34 rfl ?_
    refine k_bipush cx 8 dL_comes_36 (by decide) ?_
    refine k_ishl cx dL_comes_38 ?_
    refine k_ior cx dL_comes_39 ?_
    refine k_iload cx 4 dL_comes_40 rfl ?_
    refine k_bipush cx 24 dL_comes_42 (by decide) ?_
    refine k_ishl cx dL_comes_44 ?_
    refine k_ior cx dL_comes_45 ?_
    refine k_iload cx 5 dL_comes_46 rfl ?_
    refine k_bipush cx 25 dL_comes_48 (by decide) ?_
    refine k_ishl cx dL_comes_50 ?_
    refine k_ior cx dL_comes_51 ?_
    obtain ⟨a13, g14, h⟩ := bind_ok h
    obtain ⟨j15, g16, h⟩ := bind_ok h
    refine k_iast cx g14 g16 dL_comes_52 ?_
    refine k_aload_n cx 1 dL_comes_53 rfl rfl ?_
    refine k_bipush cx 63 dL_comes_54 (by decide) ?_
    refine k_dup2 cx (by simp [cat_rf, cat_i, cat_j]) (by simp [cat_rf, cat_i, cat_j]) dL_comes_56 ?_
    obtain ⟨j17, g18, h⟩ := bind_ok h
    refine k_iald cx g10 g18 dL_comes_57 ?_
    refine k_iconst cx 1 dL_comes_58 (by decide) ?_
    refine k_iadd cx dL_comes_59 ?_
    obtain ⟨j19, g20, h⟩ := bind_ok h
    refine k_iast cx g14 g20 dL_comes_60 ?_
    have h := Option.some.inj h
    exact k_vret cx hr hlk rfl (by rw [← h]) dL_comes_61
  have h := hxx5
  refine k_icmp_le cx 20 dL_comes_8 (by decide) (fun c6 => ?_) (fun c6 => ?_)
  · have h := ite_t h c6
    refine k_iload cx 4 dL_comes_20 rfl ?_
    refine k_sub [0, 2, 3, 5, 6] rfl ?_
    obtain rfl := Option.some.inj h
    exact Kx5
  · have h := ite_f h c6
    refine k_aload_n cx 1 dL_comes_11 rfl rfl ?_
    refine k_iconst cx 0 dL_comes_12 (by decide) ?_
    obtain ⟨j7, g8, h⟩ := bind_ok h
    refine k_iald cx g2 g8 dL_comes_13 ?_
    refine k_bipush cx 6 dL_comes_14 (by decide) ?_
    refine k_isub cx dL_comes_16 ?_
    refine k_goto cx 22 dL_comes_17 (by decide) ?_
    refine k_sub [0, 2, 3, 5, 6] rfl ?_
    obtain rfl := Option.some.inj h
    exact Kx5
set_option maxRecDepth 100000 in
set_option maxHeartbeats 4000000 in
theorem w_L_first {Γ : GE} {σ : St} {p1 : Int32} {ρ : Int32} (h : f_L_first σ p1 = some ρ) : Ct Γ yL_first cL_first 1 (some .int) 0 0 [.int p1] σ (some (.int ρ)) σ := by
  refine ct_intro (own := RL) (L0 := [(0, .int p1)]) (by decide +kernel) rfl (by simp [lg_sl, cat_rf, cat_i, cat_j]) (by simp [lv_args, cat_rf, cat_i, cat_j]) ?_
  intro p l e s m args below meth c hr hlk hin cx
  unfold f_L_first at h
  refine k_iload_n cx 0 dL_first_0 rfl rfl ?_
  refine k_bipush cx 8 dL_first_1 (by decide) ?_
  refine k_ishr cx dL_first_3 ?_
  refine k_sipush cx 255 dL_first_4 (by decide) ?_
  refine k_iand cx dL_first_7 ?_
  have h := Option.some.inj h
  exact k_iret cx hr hlk (by rw [← h]) rfl dL_first_8
set_option maxRecDepth 100000 in
set_option maxHeartbeats 4000000 in
theorem w_L_length {Γ : GE} {σ : St} {p1 : Int32} {ρ : Int32} (h : f_L_length σ p1 = some ρ) : Ct Γ yL_length cL_length 1 (some .int) 0 0 [.int p1] σ (some (.int ρ)) σ := by
  refine ct_intro (own := RL) (L0 := [(0, .int p1)]) (by decide +kernel) rfl (by simp [lg_sl, cat_rf, cat_i, cat_j]) (by simp [lv_args, cat_rf, cat_i, cat_j]) ?_
  intro p l e s m args below meth c hr hlk hin cx
  unfold f_L_length at h
  refine k_iload_n cx 0 dL_length_0 rfl rfl ?_
  refine k_bipush cx 16 dL_length_1 (by decide) ?_
  refine k_ishr cx dL_length_3 ?_
  refine k_sipush cx 255 dL_length_4 (by decide) ?_
  refine k_iand cx dL_length_7 ?_
  have h := Option.some.inj h
  exact k_iret cx hr hlk (by rw [← h]) rfl dL_length_8
set_option maxRecDepth 100000 in
set_option maxHeartbeats 4000000 in
theorem w_L_breaks {Γ : GE} {σ : St} {p1 : Option Nat} {p2 : Option Nat} {p3 : Option Nat} {ρ : St} (h : f_L_breaks σ p1 p2 p3 = some ρ) : Ct Γ yL_breaks cL_breaks 12 none 1 27 [va_rf p1, va_rf p2, va_rf p3] σ none ρ := by
  refine ct_intro (own := RL) (L0 := [(0, va_rf p1), (1, va_rf p2), (2, va_rf p3)]) (by decide +kernel) rfl (by simp [lg_sl, cat_rf, cat_i, cat_j]) (by simp [lv_args, cat_rf, cat_i, cat_j]) ?_
  intro p l e s m args below meth c hr hlk hin cx
  unfold f_L_breaks at h
  refine k_aload_n cx 2 dL_breaks_0 rfl rfl ?_
  refine k_bipush cx 63 dL_breaks_1 (by decide) ?_
  refine k_iconst cx 0 dL_breaks_3 (by decide) ?_
  obtain ⟨a1, g2, h⟩ := bind_ok h
  obtain ⟨j3, g4, h⟩ := bind_ok h
  refine k_iast cx g2 g4 dL_breaks_4 ?_
  refine k_iconst cx 0 dL_breaks_5 (by decide) ?_
  refine k_istore_n cx (i := 3) [(3, .int 0), (0, va_rf p1), (1, va_rf p2), (2, va_rf p3)] dL_breaks_6 rfl (by decide) (by simp [cat_rf, cat_i, cat_j]) ?_
  obtain ⟨x6, hxx6, h⟩ := bind_ok h
  have Kx6 : Og p l e s m args below meth c Γ 12 1 27 σ none ρ 316 [] [] x6 := by
    have h := Option.some.inj h
    exact k_vret cx hr hlk rfl (by rw [← h]) dL_breaks_316
  have KLx6 : ∀ (n : Nat) (v3_7 : Int32) (τ7 : St), LL_breaks_7 n p1 p2 p3 v3_7 τ7 = some x6 → Og p l e s m args below meth c Γ 12 1 27 σ none ρ 7 [(0, va_rf p1), (1, va_rf p2), (2, va_rf p3), (3, .int v3_7)] [] τ7 := by
    intro n
    induction n with
    | zero => intro _ _ h; cases (show (none : Option _) = some x6 from h)
    | succ n ihx6 =>
      intro v3_7 τ7 h
      rw [LL_breaks_7] at h
      refine k_iload_n cx 3 dL_breaks_7 rfl rfl ?_
      refine k_aload_n cx 0 dL_breaks_8 rfl rfl ?_
      refine k_bipush cx 60 dL_breaks_9 (by decide) ?_
      obtain ⟨a7, g8, h⟩ := bind_ok h
      obtain ⟨j9, g10, h⟩ := bind_ok h
      refine k_iald cx g8 g10 dL_breaks_11 ?_
      refine k_icmp_ge cx 316 dL_breaks_12 (by decide) (fun c11 => ?_) (fun c11 => ?_)
      · have h := ite_t h c11
        refine k_sub [] rfl ?_
        obtain rfl := Option.some.inj h
        exact Kx6
      · have h := ite_f h c11
        refine k_aload_n cx 0 dL_breaks_15 rfl rfl ?_
        refine k_bipush cx 10 dL_breaks_16 (by decide) ?_
        refine k_iload_n cx 3 dL_breaks_18 rfl rfl ?_
        refine k_imul cx dL_breaks_19 ?_
        refine k_iconst cx 5 dL_breaks_20 (by decide) ?_
        refine k_iadd cx dL_breaks_21 ?_
        obtain ⟨j12, g13, h⟩ := bind_ok h
        refine k_iald cx g8 g13 dL_breaks_22 ?_
        refine k_aload_n cx 1 dL_breaks_23 rfl rfl ?_
        refine k_iconst cx 2 dL_breaks_24 (by decide) ?_
        obtain ⟨a14, g15, h⟩ := bind_ok h
        obtain ⟨j16, g17, h⟩ := bind_ok h
        refine k_iald cx g15 g17 dL_breaks_25 ?_
        refine k_imul cx dL_breaks_26 ?_
        refine k_istore cx [(4, .int ((hpA τ7 a7 j12) * (hpA τ7 a14 j16))), (0, va_rf p1), (1, va_rf p2), (2, va_rf p3), (3, .int v3_7)] dL_breaks_27 (by decide) (by simp [cat_rf, cat_i, cat_j]) ?_
        refine k_aload_n cx 1 dL_breaks_29 rfl rfl ?_
        refine k_bipush cx 10 dL_breaks_30 (by decide) ?_
        refine k_iload_n cx 4 dL_breaks_32 rfl rfl ?_
        refine k_imul cx dL_breaks_33 ?_
        refine k_bipush cx 6 dL_breaks_34 (by decide) ?_
        refine k_iadd cx dL_breaks_36 ?_
        obtain ⟨j18, g19, h⟩ := bind_ok h
        refine k_iald cx g8 g19 dL_breaks_37 ?_
        refine k_iconst cx 1 dL_breaks_38 (by decide) ?_
        obtain ⟨x20, hxx20, h⟩ := bind_ok h
        have Kx20 : Og p l e s m args below meth c Γ 12 1 27 σ none ρ 55 [(0, va_rf p1), (1, va_rf p2), (2, va_rf p3), (3, .int v3_7), (4, .int ((hpA τ7 a7 j12) * (hpA τ7 a14 j16)))] [.int x20] τ7 := by
          refine k_istore cx [(5, .int x20), (0, va_rf p1), (1, va_rf p2), (2, va_rf p3), (3, .int v3_7), (4, .int ((hpA τ7 a7 j12) * (hpA τ7 a14 j16)))] dL_breaks_55 (by decide) (by simp [cat_rf, cat_i, cat_j]) ?_
          refine k_aload_n cx 3 dL_breaks_57 rfl rfl ?_
          refine k_bipush cx 63 dL_breaks_58 (by decide) ?_
          obtain ⟨a25, g26, h⟩ := bind_ok h
          obtain ⟨j27, g28, h⟩ := bind_ok h
          refine k_iald cx g26 g28 dL_breaks_60 ?_
          obtain ⟨x29, hxx29, h⟩ := bind_ok h
          have Kx29 : Og p l e s m args below meth c Γ 12 1 27 σ none ρ 76 [(0, va_rf p1), (1, va_rf p2), (2, va_rf p3), (3, .int v3_7), (4, .int ((hpA τ7 a7 j12) * (hpA τ7 a14 j16))), (5, .int x20)] [.int x29] τ7 := by
            refine k_istore cx [(6, .int x29), (0, va_rf p1), (1, va_rf p2), (2, va_rf p3), (3, .int v3_7), (4, .int ((hpA τ7 a7 j12) * (hpA τ7 a14 j16))), (5, .int x20)] dL_breaks_76 (by decide) (by simp [cat_rf, cat_i, cat_j]) ?_
            refine k_iconst cx 0 dL_breaks_78 (by decide) ?_
            refine k_istore cx [(7, .int 0), (6, .int x29), (0, va_rf p1), (1, va_rf p2), (2, va_rf p3), (3, .int v3_7), (4, .int ((hpA τ7 a7 j12) * (hpA τ7 a14 j16))), (5, .int x20)] dL_breaks_79 (by decide) (by simp [cat_rf, cat_i, cat_j]) ?_
            refine k_iconst cx 0 dL_breaks_81 (by decide) ?_
            refine k_istore cx [(8, .int 0), (7, .int 0), (6, .int x29), (0, va_rf p1), (1, va_rf p2), (2, va_rf p3), (3, .int v3_7), (4, .int ((hpA τ7 a7 j12) * (hpA τ7 a14 j16))), (5, .int x20)] dL_breaks_82 (by decide) (by simp [cat_rf, cat_i, cat_j]) ?_
            refine k_aload_n cx 5 dL_breaks_84 rfl rfl ?_
            refine k_aload_n cx 4 dL_breaks_85 rfl rfl ?_
            refine k_iload_n cx 6 dL_breaks_86 rfl rfl ?_
            refine k_iconst cx 0 dL_breaks_87 (by decide) ?_
            refine k_iload cx 8 dL_breaks_88 rfl ?_
            obtain ⟨x35, hxx35, h⟩ := bind_ok h
            have Kx35 : Og p l e s m args below meth c Γ 12 1 27 σ none ρ 111 [(0, va_rf p1), (1, va_rf p2), (2, va_rf p3), (3, .int v3_7), (4, .int ((hpA τ7 a7 j12) * (hpA τ7 a14 j16))), (7, .int 0), (8, .int 0)] [.int x35, .int 0, .int v3_7, va_rf p2, va_rf p3] τ7 := by
              refine k_iconst cx 0 dL_breaks_111 (by decide) ?_
              refine k_iconst cx 0 dL_breaks_112 (by decide) ?_
              obtain ⟨q41, g42, h⟩ := bind_ok h
              refine k_callS cx iv_L_52 (w_L_comes g42) (As := [va_rf p3, va_rf p2, .int v3_7, .int 0, .int x35, .int 0, .int 0]) rfl rfl ⟨Nat.le_of_ble_eq_true rfl, Nat.le_of_ble_eq_true rfl⟩ (by simp [cat_rf, cat_i, cat_j]) dL_breaks_113 ?_
              refine k_iconst cx 0 dL_breaks_116 (by decide) ?_
              refine k_istore cx [(9, .int 0), (0, va_rf p1), (1, va_rf p2), (2, va_rf p3), (3, .int v3_7), (4, .int ((hpA τ7 a7 j12) * (hpA τ7 a14 j16))), (7, .int 0), (8, .int 0)] dL_breaks_117 (by decide) (by simp [cat_rf, cat_i, cat_j]) ?_
              obtain ⟨x44, hxx44, h⟩ := bind_ok h
              have Kx44 : Og p l e s m args below meth c Γ 12 1 27 σ none ρ 310 [(0, va_rf p1), (1, va_rf p2), (2, va_rf p3), (3, .int v3_7)] [] x44 := by
                refine k_iinc cx 3 [(3, .int (v3_7 + 1)), (0, va_rf p1), (1, va_rf p2), (2, va_rf p3)] (v3_7 + 1) dL_breaks_310 rfl rfl (by decide) (by simp [cat_rf, cat_i, cat_j]) ?_
                refine k_goto cx 7 dL_breaks_313 (by decide) ?_
                refine k_sub [1, 2, 3, 0] rfl ?_
                exact ihx6 _ _ h
              have KLx44 : ∀ (n : Nat) (v7_119 : Int32) (v8_119 : Int32) (v9_119 : Int32) (τ119 : St), LL_breaks_119 n p1 p2 p3 v3_7 ((hpA τ7 a7 j12) * (hpA τ7 a14 j16)) v7_119 v8_119 v9_119 τ119 = some x44 → Og p l e s m args below meth c Γ 12 1 27 σ none ρ 119 [(0, va_rf p1), (1, va_rf p2), (2, va_rf p3), (3, .int v3_7), (4, .int ((hpA τ7 a7 j12) * (hpA τ7 a14 j16))), (7, .int v7_119), (8, .int v8_119), (9, .int v9_119)] [] τ119 := by
                intro n
                induction n with
                | zero => intro _ _ _ _ h; cases (show (none : Option _) = some x44 from h)
                | succ n ihx44 =>
                  intro v7_119 v8_119 v9_119 τ119 h
                  rw [LL_breaks_119] at h
                  refine k_iload cx 7 dL_breaks_119 rfl ?_
                  refine k_aload_n cx 0 dL_breaks_121 rfl rfl ?_
                  refine k_bipush cx 10 dL_breaks_122 (by decide) ?_
                  refine k_iload_n cx 3 dL_breaks_124 rfl rfl ?_
                  refine k_imul cx dL_breaks_125 ?_
                  obtain ⟨a45, g46, h⟩ := bind_ok h
                  obtain ⟨j47, g48, h⟩ := bind_ok h
                  refine k_iald cx g46 g48 dL_breaks_126 ?_
                  refine k_icmp_ge cx 310 dL_breaks_127 (by decide) (fun c49 => ?_) (fun c49 => ?_)
                  · have h := ite_t h c49
                    refine k_sub [0, 1, 2, 3] rfl ?_
                    obtain rfl := Option.some.inj h
                    exact Kx44
                  · have h := ite_f h c49
                    refine k_aload_n cx 0 dL_breaks_130 rfl rfl ?_
                    refine k_bipush cx 10 dL_breaks_131 (by decide) ?_
                    refine k_iload_n cx 3 dL_breaks_133 rfl rfl ?_
                    refine k_imul cx dL_breaks_134 ?_
                    refine k_iconst cx 1 dL_breaks_135 (by decide) ?_
                    refine k_iadd cx dL_breaks_136 ?_
                    refine k_iload cx 7 dL_breaks_137 rfl ?_
                    refine k_iadd cx dL_breaks_139 ?_
                    obtain ⟨j50, g51, h⟩ := bind_ok h
                    refine k_iald cx g46 g51 dL_breaks_140 ?_
                    refine k_istore cx [(10, .int (hpA τ119 a45 j50)), (0, va_rf p1), (1, va_rf p2), (2, va_rf p3), (3, .int v3_7), (4, .int ((hpA τ7 a7 j12) * (hpA τ7 a14 j16))), (7, .int v7_119), (8, .int v8_119), (9, .int v9_119)] dL_breaks_141 (by decide) (by simp [cat_rf, cat_i, cat_j]) ?_
                    refine k_aload_n cx 3 dL_breaks_143 rfl rfl ?_
                    refine k_aload_n cx 3 dL_breaks_144 rfl rfl ?_
                    refine k_bipush cx 63 dL_breaks_145 (by decide) ?_
                    obtain ⟨a52, g53, h⟩ := bind_ok h
                    obtain ⟨j54, g55, h⟩ := bind_ok h
                    refine k_iald cx g53 g55 dL_breaks_147 ?_
                    refine k_iconst cx 1 dL_breaks_148 (by decide) ?_
                    refine k_isub cx dL_breaks_149 ?_
                    obtain ⟨j56, g57, h⟩ := bind_ok h
                    refine k_iald cx g53 g57 dL_breaks_150 ?_
                    refine k_istore cx [(11, .int (hpA τ119 a52 j56)), (10, .int (hpA τ119 a45 j50)), (0, va_rf p1), (1, va_rf p2), (2, va_rf p3), (3, .int v3_7), (4, .int ((hpA τ7 a7 j12) * (hpA τ7 a14 j16))), (7, .int v7_119), (8, .int v8_119), (9, .int v9_119)] dL_breaks_151 (by decide) (by simp [cat_rf, cat_i, cat_j]) ?_
                    refine k_iload cx 0 dL_breaks_153 rfl ?_
                    obtain ⟨q58, g59, h⟩ := bind_ok h
                    refine k_callS cx iv_L_49 (w_L_length g59) (As := [.int (hpA τ119 a52 j56)]) rfl rfl ⟨Nat.le_of_ble_eq_true rfl, Nat.le_of_ble_eq_true rfl⟩ (by simp [cat_rf, cat_i, cat_j]) dL_breaks_155 ?_
                    obtain ⟨x60, hxx60, h⟩ := bind_ok h
                    have Kx60 : Og p l e s m args below meth c Γ 12 1 27 σ none ρ 227 [(0, va_rf p1), (1, va_rf p2), (2, va_rf p3), (3, .int v3_7), (4, .int ((hpA τ7 a7 j12) * (hpA τ7 a14 j16))), (7, .int x60.1), (8, .int v8_119), (9, .int v9_119), (10, .int (hpA τ119 a45 j50))] [] x60.2 := by
                      obtain ⟨x98, hxx98, h⟩ := bind_ok h
                      have Kx98 : Og p l e s m args below meth c Γ 12 1 27 σ none ρ 301 [(0, va_rf p1), (1, va_rf p2), (2, va_rf p3), (3, .int v3_7), (4, .int ((hpA τ7 a7 j12) * (hpA τ7 a14 j16))), (7, .int x98.1), (8, .int x98.2.1), (9, .int v9_119)] [] x98.2.2 := by
                        refine k_iinc cx 6 [(8, .int (x98.2.1 + 1)), (0, va_rf p1), (1, va_rf p2), (2, va_rf p3), (3, .int v3_7), (4, .int ((hpA τ7 a7 j12) * (hpA τ7 a14 j16))), (7, .int x98.1), (9, .int v9_119)] (x98.2.1 + 1) dL_breaks_301 rfl rfl (by decide) (by simp [cat_rf, cat_i, cat_j]) ?_
                        refine k_iinc cx 7 [(9, .int (v9_119 + 1)), (8, .int (x98.2.1 + 1)), (0, va_rf p1), (1, va_rf p2), (2, va_rf p3), (3, .int v3_7), (4, .int ((hpA τ7 a7 j12) * (hpA τ7 a14 j16))), (7, .int x98.1)] (v9_119 + 1) dL_breaks_304 rfl rfl (by decide) (by simp [cat_rf, cat_i, cat_j]) ?_
                        refine k_goto cx 119 dL_breaks_307 (by decide) ?_
                        refine k_sub [2, 3, 4, 5, 6, 7, 1, 0] rfl ?_
                        exact ihx44 _ _ _ _ h
                      have KLx98 : ∀ (n : Nat) (v7_227 : Int32) (v8_227 : Int32) (v10_227 : Int32) (τ227 : St), LL_breaks_227 n p1 p2 p3 v3_7 ((hpA τ7 a7 j12) * (hpA τ7 a14 j16)) v9_119 v7_227 v8_227 v10_227 τ227 = some x98 → Og p l e s m args below meth c Γ 12 1 27 σ none ρ 227 [(0, va_rf p1), (1, va_rf p2), (2, va_rf p3), (3, .int v3_7), (4, .int ((hpA τ7 a7 j12) * (hpA τ7 a14 j16))), (7, .int v7_227), (8, .int v8_227), (9, .int v9_119), (10, .int v10_227)] [] τ227 := by
                        intro n
                        induction n with
                        | zero => intro _ _ _ _ h; cases (show (none : Option _) = some x98 from h)
                        | succ n ihx98 =>
                          intro v7_227 v8_227 v10_227 τ227 h
                          rw [LL_breaks_227] at h
                          refine k_iload cx 8 dL_breaks_227 rfl ?_
                          refine k_if_le cx 301 dL_breaks_229 (by decide) (fun c99 => ?_) (fun c99 => ?_)
                          · have h := ite_t h c99
                            refine k_sub [0, 1, 2, 3, 4, 5, 6, 7] rfl ?_
                            obtain rfl := Option.some.inj h
                            exact Kx98
                          · have h := ite_f h c99
                            refine k_aload_n cx 2 dL_breaks_232 rfl rfl ?_
                            refine k_aload_n cx 2 dL_breaks_233 rfl rfl ?_
                            refine k_bipush cx 63 dL_breaks_234 (by decide) ?_
                            obtain ⟨a100, g101, h⟩ := bind_ok h
                            obtain ⟨j102, g103, h⟩ := bind_ok h
                            refine k_iald cx g101 g103 dL_breaks_236 ?_
                            refine k_iconst cx 1 dL_breaks_237 (by decide) ?_
                            refine k_isub cx dL_breaks_238 ?_
                            obtain ⟨j104, g105, h⟩ := bind_ok h
                            refine k_iald cx g101 g105 dL_breaks_239 ?_
                            refine k_istore cx [(11, .int (hpA τ227 a100 j104)), (0, va_rf p1), (1, va_rf p2), (2, va_rf p3), (3, .int v3_7), (4, .int ((hpA τ7 a7 j12) * (hpA τ7 a14 j16))), (7, .int v7_227), (8, .int v8_227), (9, .int v9_119), (10, .int v10_227)] dL_breaks_240 (by decide) (by simp [cat_rf, cat_i, cat_j]) ?_
                            refine k_iload cx 0 dL_breaks_242 rfl ?_
                            obtain ⟨q106, g107, h⟩ := bind_ok h
                            refine k_callS cx iv_L_46 (w_L_first g107) (As := [.int (hpA τ227 a100 j104)]) rfl rfl ⟨Nat.le_of_ble_eq_true rfl, Nat.le_of_ble_eq_true rfl⟩ (by simp [cat_rf, cat_i, cat_j]) dL_breaks_244 ?_
                            refine k_iload cx 0 dL_breaks_247 rfl ?_
                            obtain ⟨q108, g109, h⟩ := bind_ok h
                            refine k_callS cx iv_L_49 (w_L_length g109) (As := [.int (hpA τ227 a100 j104)]) rfl rfl ⟨Nat.le_of_ble_eq_true rfl, Nat.le_of_ble_eq_true rfl⟩ (by simp [cat_rf, cat_i, cat_j]) dL_breaks_249 ?_
                            refine k_iadd cx dL_breaks_252 ?_
                            refine k_aload_n cx 2 dL_breaks_253 rfl rfl ?_
                            refine k_iconst cx 0 dL_breaks_254 (by decide) ?_
                            obtain ⟨a110, g111, h⟩ := bind_ok h
                            obtain ⟨j112, g113, h⟩ := bind_ok h
                            refine k_iald cx g111 g113 dL_breaks_255 ?_
                            obtain ⟨x114, hxx114, h⟩ := bind_ok h
                            have Kx114 : Og p l e s m args below meth c Γ 12 1 27 σ none ρ 279 [(0, va_rf p1), (1, va_rf p2), (2, va_rf p3), (3, .int v3_7), (4, .int ((hpA τ7 a7 j12) * (hpA τ7 a14 j16))), (7, .int x114.1), (8, .int v8_227), (9, .int v9_119), (10, .int v10_227)] [] x114.2 := by
                              refine k_aload_n cx 2 dL_breaks_279 rfl rfl ?_
                              refine k_aload_n cx 2 dL_breaks_280 rfl rfl ?_
                              refine k_bipush cx 63 dL_breaks_281 (by decide) ?_
                              obtain ⟨a120, g121, h⟩ := bind_ok h
                              obtain ⟨j122, g123, h⟩ := bind_ok h
                              refine k_iald cx g121 g123 dL_breaks_283 ?_
                              refine k_iconst cx 1 dL_breaks_284 (by decide) ?_
                              refine k_isub cx dL_breaks_285 ?_
                              refine k_dup2 cx (by simp [cat_rf, cat_i, cat_j]) (by simp [cat_rf, cat_i, cat_j]) dL_breaks_286 ?_
                              obtain ⟨j124, g125, h⟩ := bind_ok h
                              refine k_iald cx g121 g125 dL_breaks_287 ?_
                              refine k_ldcI cx 65536 lc_L_56 dL_breaks_288 ?_
                              refine k_iadd cx dL_breaks_290 ?_
                              obtain ⟨a126, g127, h⟩ := bind_ok h
                              obtain ⟨j128, g129, h⟩ := bind_ok h
                              refine k_iast cx g127 g129 dL_breaks_291 ?_
                              refine k_iinc cx 8 [(10, .int (v10_227 + (-1))), (0, va_rf p1), (1, va_rf p2), (2, va_rf p3), (3, .int v3_7), (4, .int ((hpA τ7 a7 j12) * (hpA τ7 a14 j16))), (7, .int x114.1), (8, .int v8_227), (9, .int v9_119)] (v10_227 + (-1)) dL_breaks_292 rfl rfl (by decide) (by simp [cat_rf, cat_i, cat_j]) ?_
                              refine k_iinc cx 7 [(8, .int (v8_227 + 1)), (10, .int (v10_227 + (-1))), (0, va_rf p1), (1, va_rf p2), (2, va_rf p3), (3, .int v3_7), (4, .int ((hpA τ7 a7 j12) * (hpA τ7 a14 j16))), (7, .int x114.1), (9, .int v9_119)] (v8_227 + 1) dL_breaks_295 rfl rfl (by decide) (by simp [cat_rf, cat_i, cat_j]) ?_
                              refine k_goto cx 227 dL_breaks_298 (by decide) ?_
                              refine k_sub [2, 3, 4, 5, 6, 7, 0, 8, 1] rfl ?_
                              exact ihx98 _ _ _ _ h
                            have h := hxx114
                            refine k_icmp_ne cx 279 dL_breaks_256 (by decide) (fun c115 => ?_) (fun c115 => ?_)
                            · have h := ite_t h c115
                              refine k_sub [1, 2, 3, 4, 5, 6, 7, 8, 9] rfl ?_
                              obtain rfl := Option.some.inj h
                              exact Kx114
                            · have h := ite_f h c115
                              refine k_iinc cx 6 [(7, .int (v7_227 + 1)), (11, .int (hpA τ227 a100 j104)), (0, va_rf p1), (1, va_rf p2), (2, va_rf p3), (3, .int v3_7), (4, .int ((hpA τ7 a7 j12) * (hpA τ7 a14 j16))), (8, .int v8_227), (9, .int v9_119), (10, .int v10_227)] (v7_227 + 1) dL_breaks_259 rfl rfl (by decide) (by simp [cat_rf, cat_i, cat_j]) ?_
                              refine k_aload_n cx 4 dL_breaks_262 rfl rfl ?_
                              refine k_aload_n cx 3 dL_breaks_263 rfl rfl ?_
                              refine k_iload_n cx 5 dL_breaks_264 rfl rfl ?_
                              refine k_iload cx 0 dL_breaks_265 rfl ?_
                              refine k_iload cx 6 dL_breaks_267 rfl ?_
                              refine k_aload_n cx 3 dL_breaks_269 rfl rfl ?_
                              refine k_iconst cx 3 dL_breaks_270 (by decide) ?_
                              obtain ⟨j116, g117, h⟩ := bind_ok h
                              refine k_iald cx g111 g117 dL_breaks_271 ?_
                              refine k_iadd cx dL_breaks_272 ?_
                              refine k_iconst cx 1 dL_breaks_273 (by decide) ?_
                              refine k_iload cx 7 dL_breaks_274 rfl ?_
                              obtain ⟨q118, g119, h⟩ := bind_ok h
                              refine k_callS cx iv_L_52 (w_L_comes g119) (As := [va_rf p3, va_rf p2, .int v3_7, .int (v7_227 + 1), .int (((hpA τ7 a7 j12) * (hpA τ7 a14 j16)) + (hpA τ227 a110 j116)), .int 1, .int v8_227]) rfl rfl ⟨Nat.le_of_ble_eq_true rfl, Nat.le_of_ble_eq_true rfl⟩ (by simp [cat_rf, cat_i, cat_j]) dL_breaks_276 ?_
                              refine k_sub [2, 3, 4, 5, 6, 0, 7, 8, 9] rfl ?_
                              obtain rfl := Option.some.inj h
                              exact Kx114
                      exact KLx98 FU _ _ _ _ hxx98
                    have h := hxx60
                    refine k_if_le cx 206 dL_breaks_158 (by decide) (fun c61 => ?_) (fun c61 => ?_)
                    · have h := ite_t h c61
                      refine k_iload cx 0 dL_breaks_206 rfl ?_
                      obtain ⟨q62, g63, h⟩ := bind_ok h
                      refine k_callS cx iv_L_49 (w_L_length g63) (As := [.int (hpA τ119 a52 j56)]) rfl rfl ⟨Nat.le_of_ble_eq_true rfl, Nat.le_of_ble_eq_true rfl⟩ (by simp [cat_rf, cat_i, cat_j]) dL_breaks_208 ?_
                      refine k_if_le cx 227 dL_breaks_211 (by decide) (fun c64 => ?_) (fun c64 => ?_)
                      · have h := ite_t h c64
                        refine k_sub [2, 3, 4, 5, 6, 7, 8, 9, 1] rfl ?_
                        obtain rfl := Option.some.inj h
                        exact Kx60
                      · have h := ite_f h c64
                        refine k_aload_n cx 4 dL_breaks_214 rfl rfl ?_
                        refine k_aload_n cx 4 dL_breaks_215 rfl rfl ?_
                        refine k_bipush cx 63 dL_breaks_216 (by decide) ?_
                        obtain ⟨j65, g66, h⟩ := bind_ok h
                        refine k_iald cx g53 g66 dL_breaks_218 ?_
                        refine k_iconst cx 1 dL_breaks_219 (by decide) ?_
                        refine k_isub cx dL_breaks_220 ?_
                        refine k_dup2 cx (by simp [cat_rf, cat_i, cat_j]) (by simp [cat_rf, cat_i, cat_j]) dL_breaks_221 ?_
                        obtain ⟨j67, g68, h⟩ := bind_ok h
                        refine k_iald cx g53 g68 dL_breaks_222 ?_
                        refine k_ldcI cx 65536 lc_L_56 dL_breaks_223 ?_
                        refine k_iadd cx dL_breaks_225 ?_
                        obtain ⟨a69, g70, h⟩ := bind_ok h
                        obtain ⟨j71, g72, h⟩ := bind_ok h
                        refine k_iast cx g70 g72 dL_breaks_226 ?_
                        refine k_sub [2, 3, 4, 5, 6, 7, 8, 9, 1] rfl ?_
                        obtain rfl := Option.some.inj h
                        exact Kx60
                    · have h := ite_f h c61
                      refine k_iload cx 0 dL_breaks_161 rfl ?_
                      obtain ⟨q73, g74, h⟩ := bind_ok h
                      refine k_callS cx iv_L_46 (w_L_first g74) (As := [.int (hpA τ119 a52 j56)]) rfl rfl ⟨Nat.le_of_ble_eq_true rfl, Nat.le_of_ble_eq_true rfl⟩ (by simp [cat_rf, cat_i, cat_j]) dL_breaks_163 ?_
                      refine k_iload cx 0 dL_breaks_166 rfl ?_
                      obtain ⟨q75, g76, h⟩ := bind_ok h
                      refine k_callS cx iv_L_49 (w_L_length g76) (As := [.int (hpA τ119 a52 j56)]) rfl rfl ⟨Nat.le_of_ble_eq_true rfl, Nat.le_of_ble_eq_true rfl⟩ (by simp [cat_rf, cat_i, cat_j]) dL_breaks_168 ?_
                      refine k_iadd cx dL_breaks_171 ?_
                      refine k_iconst cx 1 dL_breaks_172 (by decide) ?_
                      refine k_iadd cx dL_breaks_173 ?_
                      refine k_iload cx 1 dL_breaks_174 rfl ?_
                      refine k_iadd cx dL_breaks_176 ?_
                      refine k_aload_n cx 3 dL_breaks_177 rfl rfl ?_
                      refine k_iconst cx 0 dL_breaks_178 (by decide) ?_
                      obtain ⟨a77, g78, h⟩ := bind_ok h
                      obtain ⟨j79, g80, h⟩ := bind_ok h
                      refine k_iald cx g78 g80 dL_breaks_179 ?_
                      refine k_icmp_le cx 206 dL_breaks_180 (by decide) (fun c81 => ?_) (fun c81 => ?_)
                      · have h := ite_t h c81
                        refine k_iload cx 0 dL_breaks_206 rfl ?_
                        obtain ⟨q82, g83, h⟩ := bind_ok h
                        refine k_callS cx iv_L_49 (w_L_length g83) (As := [.int (hpA τ119 a52 j56)]) rfl rfl ⟨Nat.le_of_ble_eq_true rfl, Nat.le_of_ble_eq_true rfl⟩ (by simp [cat_rf, cat_i, cat_j]) dL_breaks_208 ?_
                        refine k_if_le cx 227 dL_breaks_211 (by decide) (fun c84 => ?_) (fun c84 => ?_)
                        · have h := ite_t h c84
                          refine k_sub [2, 3, 4, 5, 6, 7, 8, 9, 1] rfl ?_
                          obtain rfl := Option.some.inj h
                          exact Kx60
                        · have h := ite_f h c84
                          refine k_aload_n cx 4 dL_breaks_214 rfl rfl ?_
                          refine k_aload_n cx 4 dL_breaks_215 rfl rfl ?_
                          refine k_bipush cx 63 dL_breaks_216 (by decide) ?_
                          obtain ⟨j85, g86, h⟩ := bind_ok h
                          refine k_iald cx g53 g86 dL_breaks_218 ?_
                          refine k_iconst cx 1 dL_breaks_219 (by decide) ?_
                          refine k_isub cx dL_breaks_220 ?_
                          refine k_dup2 cx (by simp [cat_rf, cat_i, cat_j]) (by simp [cat_rf, cat_i, cat_j]) dL_breaks_221 ?_
                          obtain ⟨j87, g88, h⟩ := bind_ok h
                          refine k_iald cx g53 g88 dL_breaks_222 ?_
                          refine k_ldcI cx 65536 lc_L_56 dL_breaks_223 ?_
                          refine k_iadd cx dL_breaks_225 ?_
                          obtain ⟨a89, g90, h⟩ := bind_ok h
                          obtain ⟨j91, g92, h⟩ := bind_ok h
                          refine k_iast cx g90 g92 dL_breaks_226 ?_
                          refine k_sub [2, 3, 4, 5, 6, 7, 8, 9, 1] rfl ?_
                          obtain rfl := Option.some.inj h
                          exact Kx60
                      · have h := ite_f h c81
                        refine k_iinc cx 7 [(7, .int (v7_119 + 1)), (11, .int (hpA τ119 a52 j56)), (10, .int (hpA τ119 a45 j50)), (0, va_rf p1), (1, va_rf p2), (2, va_rf p3), (3, .int v3_7), (4, .int ((hpA τ7 a7 j12) * (hpA τ7 a14 j16))), (8, .int v8_119), (9, .int v9_119)] (v7_119 + 1) dL_breaks_183 rfl rfl (by decide) (by simp [cat_rf, cat_i, cat_j]) ?_
                        refine k_aload_n cx 5 dL_breaks_186 rfl rfl ?_
                        refine k_aload_n cx 4 dL_breaks_187 rfl rfl ?_
                        refine k_iload_n cx 6 dL_breaks_188 rfl rfl ?_
                        refine k_iload cx 0 dL_breaks_189 rfl ?_
                        refine k_iload cx 7 dL_breaks_191 rfl ?_
                        refine k_aload_n cx 4 dL_breaks_193 rfl rfl ?_
                        refine k_iconst cx 3 dL_breaks_194 (by decide) ?_
                        obtain ⟨j93, g94, h⟩ := bind_ok h
                        refine k_iald cx g78 g94 dL_breaks_195 ?_
                        refine k_iadd cx dL_breaks_196 ?_
                        refine k_iconst cx 0 dL_breaks_197 (by decide) ?_
                        refine k_iload cx 8 dL_breaks_198 rfl ?_
                        obtain ⟨q95, g96, h⟩ := bind_ok h
                        refine k_callS cx iv_L_52 (w_L_comes g96) (As := [va_rf p3, va_rf p2, .int v3_7, .int (v7_119 + 1), .int (((hpA τ7 a7 j12) * (hpA τ7 a14 j16)) + (hpA τ119 a77 j93)), .int 0, .int v8_119]) rfl rfl ⟨Nat.le_of_ble_eq_true rfl, Nat.le_of_ble_eq_true rfl⟩ (by simp [cat_rf, cat_i, cat_j]) dL_breaks_200 ?_
                        refine k_goto cx 227 dL_breaks_203 (by decide) ?_
                        refine k_sub [3, 4, 5, 6, 7, 0, 8, 9, 2] rfl ?_
                        obtain rfl := Option.some.inj h
                        exact Kx60
              refine k_sub [1, 2, 3, 4, 5, 6, 7, 0] rfl ?_
              exact KLx44 FU _ _ _ _ hxx44
            have h := hxx35
            refine k_if_eq cx 109 dL_breaks_90 (by decide) (fun c36 => ?_) (fun c36 => ?_)
            · have h := ite_t h c36
              refine k_iload cx 7 dL_breaks_109 rfl ?_
              refine k_sub [3, 4, 5, 6, 7, 1, 0] rfl ?_
              obtain rfl := Option.some.inj h
              exact Kx35
            · have h := ite_f h c36
              refine k_iload cx 2 dL_breaks_93 rfl ?_
              obtain ⟨q37, g38, h⟩ := bind_ok h
              refine k_callS cx iv_L_46 (w_L_first g38) (As := [.int x29]) rfl rfl ⟨Nat.le_of_ble_eq_true rfl, Nat.le_of_ble_eq_true rfl⟩ (by simp [cat_rf, cat_i, cat_j]) dL_breaks_95 ?_
              refine k_iload cx 2 dL_breaks_98 rfl ?_
              obtain ⟨q39, g40, h⟩ := bind_ok h
              refine k_callS cx iv_L_49 (w_L_length g40) (As := [.int x29]) rfl rfl ⟨Nat.le_of_ble_eq_true rfl, Nat.le_of_ble_eq_true rfl⟩ (by simp [cat_rf, cat_i, cat_j]) dL_breaks_100 ?_
              refine k_iadd cx dL_breaks_103 ?_
              refine k_iconst cx 1 dL_breaks_104 (by decide) ?_
              refine k_iadd cx dL_breaks_105 ?_
              refine k_goto cx 111 dL_breaks_106 (by decide) ?_
              refine k_sub [3, 4, 5, 6, 7, 1, 0] rfl ?_
              obtain rfl := Option.some.inj h
              exact Kx35
          have h := hxx29
          refine k_if_ne cx 68 dL_breaks_61 (by decide) (fun c30 => ?_) (fun c30 => ?_)
          · have h := ite_t h c30
            refine k_aload_n cx 3 dL_breaks_68 rfl rfl ?_
            refine k_aload_n cx 3 dL_breaks_69 rfl rfl ?_
            refine k_bipush cx 63 dL_breaks_70 (by decide) ?_
            obtain ⟨j31, g32, h⟩ := bind_ok h
            refine k_iald cx g26 g32 dL_breaks_72 ?_
            refine k_iconst cx 1 dL_breaks_73 (by decide) ?_
            refine k_isub cx dL_breaks_74 ?_
            obtain ⟨j33, g34, h⟩ := bind_ok h
            refine k_iald cx g26 g34 dL_breaks_75 ?_
            refine k_sub [1, 2, 3, 4, 5, 0] rfl ?_
            obtain rfl := Option.some.inj h
            exact Kx29
          · have h := ite_f h c30
            refine k_iconst cx 0 dL_breaks_64 (by decide) ?_
            refine k_goto cx 76 dL_breaks_65 (by decide) ?_
            refine k_sub [1, 2, 3, 4, 5, 0] rfl ?_
            obtain rfl := Option.some.inj h
            exact Kx29
        have h := hxx20
        refine k_icmp_ne cx 54 dL_breaks_39 (by decide) (fun c21 => ?_) (fun c21 => ?_)
        · have h := ite_t h c21
          refine k_iconst cx 0 dL_breaks_54 (by decide) ?_
          refine k_sub [1, 2, 3, 4, 0] rfl ?_
          obtain rfl := Option.some.inj h
          exact Kx20
        · have h := ite_f h c21
          refine k_aload_n cx 1 dL_breaks_42 rfl rfl ?_
          refine k_iload_n cx 4 dL_breaks_43 rfl rfl ?_
          obtain ⟨q22, g23, h⟩ := bind_ok h
          refine k_callS cx iv_L_42 (w_L_isFirst g23) (As := [va_rf p1, .int v3_7]) rfl rfl ⟨Nat.le_of_ble_eq_true rfl, Nat.le_of_ble_eq_true rfl⟩ (by simp [cat_rf, cat_i, cat_j]) dL_breaks_44 ?_
          refine k_if_ne cx 54 dL_breaks_47 (by decide) (fun c24 => ?_) (fun c24 => ?_)
          · have h := ite_t h c24
            refine k_iconst cx 0 dL_breaks_54 (by decide) ?_
            refine k_sub [1, 2, 3, 4, 0] rfl ?_
            obtain rfl := Option.some.inj h
            exact Kx20
          · have h := ite_f h c24
            refine k_iconst cx 1 dL_breaks_50 (by decide) ?_
            refine k_goto cx 55 dL_breaks_51 (by decide) ?_
            refine k_sub [1, 2, 3, 4, 0] rfl ?_
            obtain rfl := Option.some.inj h
            exact Kx20
  refine k_sub [1, 2, 3, 0] rfl ?_
  exact KLx6 FU _ _ hxx6
set_option maxRecDepth 100000 in
set_option maxHeartbeats 4000000 in
theorem w_L_areLines {Γ : GE} {σ : St} {p1 : Option Nat} {p2 : Option Nat} {p3 : Option Nat} {ρ : Int32} (h : f_L_areLines σ p1 p2 p3 = some ρ) : Ct Γ yL_areLines cL_areLines 11 (some .boolean) 4 88 [va_rf p1, va_rf p2, va_rf p3] σ (some (.int ρ)) σ := by
  refine ct_intro (own := RL) (L0 := [(0, va_rf p1), (1, va_rf p2), (2, va_rf p3)]) (by decide +kernel) rfl (by simp [lg_sl, cat_rf, cat_i, cat_j]) (by simp [lv_args, cat_rf, cat_i, cat_j]) ?_
  intro p l e s m args below meth c hr hlk hin cx
  unfold f_L_areLines at h
  refine k_iconst cx 0 dL_areLines_0 (by decide) ?_
  refine k_istore_n cx (i := 3) [(3, .int 0), (0, va_rf p1), (1, va_rf p2), (2, va_rf p3)] dL_areLines_1 rfl (by decide) (by simp [cat_rf, cat_i, cat_j]) ?_
  refine k_iconst cx (-1) dL_areLines_2 (by decide) ?_
  refine k_istore cx [(4, .int (-1)), (3, .int 0), (0, va_rf p1), (1, va_rf p2), (2, va_rf p3)] dL_areLines_3 (by decide) (by simp [cat_rf, cat_i, cat_j]) ?_
  refine k_iconst cx 0 dL_areLines_5 (by decide) ?_
  refine k_istore cx [(5, .int 0), (4, .int (-1)), (3, .int 0), (0, va_rf p1), (1, va_rf p2), (2, va_rf p3)] dL_areLines_6 (by decide) (by simp [cat_rf, cat_i, cat_j]) ?_
  obtain ⟨x2, hxx2, Hx2⟩ := sb_ok h
  have Kx2 : ∀ wx2, .inr wx2 = x2 → Og p l e s m args below meth c Γ 11 4 88 σ (some (.int ρ)) σ 395 [(0, va_rf p1), (1, va_rf p2), (3, .int wx2.1), (4, .int wx2.2)] [] σ := by
    intro wx2 hw
    have h := sb_inr hw Hx2
    refine k_aload_n cx 0 dL_areLines_395 rfl rfl ?_
    refine k_iconst cx 0 dL_areLines_396 (by decide) ?_
    obtain ⟨a96, g97, h⟩ := bind_ok h
    obtain ⟨q98, g99, h⟩ := bind_ok h
    refine k_callV cx iv_L_29 (ci := 10) rfl (by decide) (w_X10_count (dn_some g97).2 g99) g97 (As := [.int 0]) rfl rfl ⟨Nat.le_of_ble_eq_true rfl, Nat.le_of_ble_eq_true rfl⟩ (by simp [cat_rf, cat_i, cat_j]) dL_areLines_397 ?_
    refine k_aload_n cx 1 dL_areLines_400 rfl rfl ?_
    refine k_bipush cx 60 dL_areLines_401 (by decide) ?_
    obtain ⟨a100, g101, h⟩ := bind_ok h
    obtain ⟨j102, g103, h⟩ := bind_ok h
    refine k_iald cx g101 g103 dL_areLines_403 ?_
    refine k_icmp_ne cx 459 dL_areLines_404 (by decide) (fun c104 => ?_) (fun c104 => ?_)
    · have h := ite_t h c104
      refine k_iconst cx 0 dL_areLines_459 (by decide) ?_
      have h := Option.some.inj h
      exact k_zret cx hr hlk gz_0 (by rw [← h]) rfl dL_areLines_460
    · have h := ite_f h c104
      refine k_aload_n cx 0 dL_areLines_407 rfl rfl ?_
      refine k_iconst cx 1 dL_areLines_408 (by decide) ?_
      obtain ⟨q105, g106, h⟩ := bind_ok h
      refine k_callV cx iv_L_29 (ci := 10) rfl (by decide) (w_X10_count (dn_some g97).2 g106) g97 (As := [.int 1]) rfl rfl ⟨Nat.le_of_ble_eq_true rfl, Nat.le_of_ble_eq_true rfl⟩ (by simp [cat_rf, cat_i, cat_j]) dL_areLines_409 ?_
      refine k_iload cx 3 dL_areLines_412 rfl ?_
      refine k_iconst cx 1 dL_areLines_414 (by decide) ?_
      refine k_iadd cx dL_areLines_415 ?_
      refine k_icmp_ne cx 459 dL_areLines_416 (by decide) (fun c107 => ?_) (fun c107 => ?_)
      · have h := ite_t h c107
        refine k_iconst cx 0 dL_areLines_459 (by decide) ?_
        have h := Option.some.inj h
        exact k_zret cx hr hlk gz_0 (by rw [← h]) rfl dL_areLines_460
      · have h := ite_f h c107
        refine k_aload_n cx 0 dL_areLines_419 rfl rfl ?_
        refine k_bipush cx 7 dL_areLines_420 (by decide) ?_
        obtain ⟨q108, g109, h⟩ := bind_ok h
        refine k_callV cx iv_L_29 (ci := 10) rfl (by decide) (w_X10_count (dn_some g97).2 g109) g97 (As := [.int 7]) rfl rfl ⟨Nat.le_of_ble_eq_true rfl, Nat.le_of_ble_eq_true rfl⟩ (by simp [cat_rf, cat_i, cat_j]) dL_areLines_422 ?_
        refine k_iload_n cx 2 dL_areLines_425 rfl rfl ?_
        refine k_icmp_ne cx 459 dL_areLines_426 (by decide) (fun c110 => ?_) (fun c110 => ?_)
        · have h := ite_t h c110
          refine k_iconst cx 0 dL_areLines_459 (by decide) ?_
          have h := Option.some.inj h
          exact k_zret cx hr hlk gz_0 (by rw [← h]) rfl dL_areLines_460
        · have h := ite_f h c110
          refine k_aload_n cx 0 dL_areLines_429 rfl rfl ?_
          refine k_aload_n cx 1 dL_areLines_430 rfl rfl ?_
          refine k_bipush cx 60 dL_areLines_431 (by decide) ?_
          obtain ⟨j111, g112, h⟩ := bind_ok h
          refine k_iald cx g101 g112 dL_areLines_433 ?_
          refine k_iconst cx 0 dL_areLines_434 (by decide) ?_
          obtain ⟨q113, g114, h⟩ := bind_ok h
          refine k_callV cx iv_L_57 (ci := 10) rfl (by decide) (w_X10_line (dn_some g97).2 g114) g97 (As := [.int (hpA σ a100 j111), .int 0]) rfl rfl ⟨Nat.le_of_ble_eq_true rfl, Nat.le_of_ble_eq_true rfl⟩ (by simp [cat_rf, cat_i, cat_j]) dL_areLines_435 ?_
          refine k_bipush cx (-2) dL_areLines_438 (by decide) ?_
          refine k_icmp_ne cx 459 dL_areLines_440 (by decide) (fun c115 => ?_) (fun c115 => ?_)
          · have h := ite_t h c115
            refine k_iconst cx 0 dL_areLines_459 (by decide) ?_
            have h := Option.some.inj h
            exact k_zret cx hr hlk gz_0 (by rw [← h]) rfl dL_areLines_460
          · have h := ite_f h c115
            refine k_aload_n cx 0 dL_areLines_443 rfl rfl ?_
            refine k_iconst cx 0 dL_areLines_444 (by decide) ?_
            refine k_bipush cx 10 dL_areLines_445 (by decide) ?_
            obtain ⟨q116, g117, h⟩ := bind_ok h
            refine k_callV cx iv_L_57 (ci := 10) rfl (by decide) (w_X10_line (dn_some g97).2 g117) g97 (As := [.int 0, .int 10]) rfl rfl ⟨Nat.le_of_ble_eq_true rfl, Nat.le_of_ble_eq_true rfl⟩ (by simp [cat_rf, cat_i, cat_j]) dL_areLines_447 ?_
            refine k_bipush cx (-2) dL_areLines_450 (by decide) ?_
            refine k_icmp_ne cx 459 dL_areLines_452 (by decide) (fun c118 => ?_) (fun c118 => ?_)
            · have h := ite_t h c118
              refine k_iconst cx 0 dL_areLines_459 (by decide) ?_
              have h := Option.some.inj h
              exact k_zret cx hr hlk gz_0 (by rw [← h]) rfl dL_areLines_460
            · have h := ite_f h c118
              refine k_iconst cx 1 dL_areLines_455 (by decide) ?_
              refine k_goto cx 460 dL_areLines_456 (by decide) ?_
              have h := Option.some.inj h
              exact k_zret cx hr hlk gz_1 (by rw [← h]) rfl dL_areLines_460
  have KLx2 : ∀ (n : Nat) (v3_8 : Int32) (v4_8 : Int32) (v5_8 : Int32), LL_areLines_8 n σ p1 p2 p3 v3_8 v4_8 v5_8 = some x2 → Og p l e s m args below meth c Γ 11 4 88 σ (some (.int ρ)) σ 8 [(0, va_rf p1), (1, va_rf p2), (2, va_rf p3), (3, .int v3_8), (4, .int v4_8), (5, .int v5_8)] [] σ := by
    intro n
    induction n with
    | zero => intro _ _ _ h; cases (show (none : Option _) = some x2 from h)
    | succ n ihx2 =>
      intro v3_8 v4_8 v5_8 h
      rw [LL_areLines_8] at h
      refine k_iload cx 5 dL_areLines_8 rfl ?_
      refine k_aload_n cx 1 dL_areLines_10 rfl rfl ?_
      refine k_bipush cx 60 dL_areLines_11 (by decide) ?_
      obtain ⟨a3, g4, h⟩ := bind_ok h
      obtain ⟨j5, g6, h⟩ := bind_ok h
      refine k_iald cx g4 g6 dL_areLines_13 ?_
      refine k_icmp_ge cx 395 dL_areLines_14 (by decide) (fun c7 => ?_) (fun c7 => ?_)
      · have h := ite_t h c7
        refine k_sub [0, 1, 3, 4] rfl ?_
        exact Kx2 _ (Option.some.inj h)
      · have h := ite_f h c7
        refine k_aload_n cx 1 dL_areLines_17 rfl rfl ?_
        refine k_bipush cx 10 dL_areLines_18 (by decide) ?_
        refine k_iload cx 5 dL_areLines_20 rfl ?_
        refine k_imul cx dL_areLines_22 ?_
        refine k_bipush cx 6 dL_areLines_23 (by decide) ?_
        refine k_iadd cx dL_areLines_25 ?_
        obtain ⟨j8, g9, h⟩ := bind_ok h
        refine k_iald cx g4 g9 dL_areLines_26 ?_
        refine k_iconst cx 1 dL_areLines_27 (by decide) ?_
        obtain ⟨x10, hxx10, h⟩ := bind_ok h
        have Kx10 : Og p l e s m args below meth c Γ 11 4 88 σ (some (.int ρ)) σ 45 [(0, va_rf p1), (1, va_rf p2), (2, va_rf p3), (3, .int v3_8), (4, .int v4_8), (5, .int v5_8)] [.int x10] σ := by
          refine k_istore cx [(6, .int x10), (0, va_rf p1), (1, va_rf p2), (2, va_rf p3), (3, .int v3_8), (4, .int v4_8), (5, .int v5_8)] dL_areLines_45 (by decide) (by simp [cat_rf, cat_i, cat_j]) ?_
          refine k_iconst cx 0 dL_areLines_47 (by decide) ?_
          refine k_istore cx [(7, .int 0), (6, .int x10), (0, va_rf p1), (1, va_rf p2), (2, va_rf p3), (3, .int v3_8), (4, .int v4_8), (5, .int v5_8)] dL_areLines_48 (by decide) (by simp [cat_rf, cat_i, cat_j]) ?_
          refine k_iconst cx 0 dL_areLines_50 (by decide) ?_
          refine k_istore cx [(8, .int 0), (7, .int 0), (6, .int x10), (0, va_rf p1), (1, va_rf p2), (2, va_rf p3), (3, .int v3_8), (4, .int v4_8), (5, .int v5_8)] dL_areLines_51 (by decide) (by simp [cat_rf, cat_i, cat_j]) ?_
          refine k_iconst cx (-1) dL_areLines_53 (by decide) ?_
          refine k_istore cx [(9, .int (-1)), (8, .int 0), (7, .int 0), (6, .int x10), (0, va_rf p1), (1, va_rf p2), (2, va_rf p3), (3, .int v3_8), (4, .int v4_8), (5, .int v5_8)] dL_areLines_54 (by decide) (by simp [cat_rf, cat_i, cat_j]) ?_
          refine k_iload_n cx 7 dL_areLines_56 rfl rfl ?_
          refine k_iload cx 3 dL_areLines_57 rfl ?_
          obtain ⟨x15, hxx15, h⟩ := bind_ok h
          have Kx15 : Og p l e s m args below meth c Γ 11 4 88 σ (some (.int ρ)) σ 67 [(0, va_rf p1), (1, va_rf p2), (2, va_rf p3), (4, .int v4_8), (5, .int v5_8), (6, .int x10), (7, .int 0), (8, .int 0), (9, .int (-1))] [.int x15, .int v3_8] σ := by
            refine k_iadd cx dL_areLines_67 ?_
            refine k_istore_n cx (i := 3) [(3, .int (v3_8 + x15)), (0, va_rf p1), (1, va_rf p2), (2, va_rf p3), (4, .int v4_8), (5, .int v5_8), (6, .int x10), (7, .int 0), (8, .int 0), (9, .int (-1))] dL_areLines_68 rfl (by decide) (by simp [cat_rf, cat_i, cat_j]) ?_
            refine k_iload cx 4 dL_areLines_69 rfl ?_
            refine k_aload_n cx 2 dL_areLines_71 rfl rfl ?_
            refine k_iload cx 5 dL_areLines_72 rfl ?_
            obtain ⟨q17, g18, h⟩ := bind_ok h
            refine k_callS cx iv_L_42 (w_L_isFirst g18) (As := [va_rf p2, .int v5_8]) rfl rfl ⟨Nat.le_of_ble_eq_true rfl, Nat.le_of_ble_eq_true rfl⟩ (by simp [cat_rf, cat_i, cat_j]) dL_areLines_74 ?_
            obtain ⟨x19, hxx19, h⟩ := bind_ok h
            have Kx19 : Og p l e s m args below meth c Γ 11 4 88 σ (some (.int ρ)) σ 85 [(0, va_rf p1), (1, va_rf p2), (2, va_rf p3), (3, .int (v3_8 + x15)), (5, .int v5_8), (6, .int x10), (7, .int 0), (8, .int 0), (9, .int (-1))] [.int x19, .int v4_8] σ := by
              refine k_iadd cx dL_areLines_85 ?_
              refine k_istore cx [(4, .int (v4_8 + x19)), (0, va_rf p1), (1, va_rf p2), (2, va_rf p3), (3, .int (v3_8 + x15)), (5, .int v5_8), (6, .int x10), (7, .int 0), (8, .int 0), (9, .int (-1))] dL_areLines_86 (by decide) (by simp [cat_rf, cat_i, cat_j]) ?_
              refine k_iconst cx 0 dL_areLines_88 (by decide) ?_
              refine k_istore cx [(10, .int 0), (4, .int (v4_8 + x19)), (0, va_rf p1), (1, va_rf p2), (2, va_rf p3), (3, .int (v3_8 + x15)), (5, .int v5_8), (6, .int x10), (7, .int 0), (8, .int 0), (9, .int (-1))] dL_areLines_89 (by decide) (by simp [cat_rf, cat_i, cat_j]) ?_
              obtain ⟨x22, hxx22, h⟩ := bind_ok h
              have Kx22 : Og p l e s m args below meth c Γ 11 4 88 σ (some (.int ρ)) σ 126 [(0, va_rf p1), (1, va_rf p2), (2, va_rf p3), (3, .int (v3_8 + x15)), (4, .int (v4_8 + x19)), (5, .int v5_8), (6, .int x10), (7, .int x22), (8, .int 0), (9, .int (-1))] [] σ := by
                refine k_iconst cx 0 dL_areLines_126 (by decide) ?_
                refine k_istore cx [(10, .int 0), (0, va_rf p1), (1, va_rf p2), (2, va_rf p3), (3, .int (v3_8 + x15)), (4, .int (v4_8 + x19)), (5, .int v5_8), (6, .int x10), (7, .int x22), (8, .int 0), (9, .int (-1))] dL_areLines_127 (by decide) (by simp [cat_rf, cat_i, cat_j]) ?_
                obtain ⟨x31, hxx31, h⟩ := bind_ok h
                have Kx31 : Og p l e s m args below meth c Γ 11 4 88 σ (some (.int ρ)) σ 192 [(0, va_rf p1), (1, va_rf p2), (2, va_rf p3), (3, .int (v3_8 + x15)), (4, .int (v4_8 + x19)), (5, .int v5_8), (6, .int x10), (7, .int x22), (8, .int x31.1), (9, .int x31.2)] [] σ := by
                  refine k_aload_n cx 0 dL_areLines_192 rfl rfl ?_
                  refine k_iload cx 5 dL_areLines_193 rfl ?_
                  refine k_iconst cx 0 dL_areLines_195 (by decide) ?_
                  obtain ⟨a46, g47, h⟩ := bind_ok h
                  obtain ⟨q48, g49, h⟩ := bind_ok h
                  refine k_callV cx iv_L_57 (ci := 10) rfl (by decide) (w_X10_line (dn_some g47).2 g49) g47 (As := [.int v5_8, .int 0]) rfl rfl ⟨Nat.le_of_ble_eq_true rfl, Nat.le_of_ble_eq_true rfl⟩ (by simp [cat_rf, cat_i, cat_j]) dL_areLines_196 ?_
                  refine k_iload cx 7 dL_areLines_199 rfl ?_
                  refine k_icmp_ne cx 300 dL_areLines_201 (by decide) (fun c50 => ?_) (fun c50 => ?_)
                  · have h := ite_t h c50
                    refine k_iconst cx 0 dL_areLines_300 (by decide) ?_
                    have h := Option.some.inj h
                    have h := sb_ret h Hx2
                    exact k_zret cx hr hlk gz_0 (by rw [← h]) rfl dL_areLines_301
                  · have h := ite_f h c50
                    refine k_aload_n cx 0 dL_areLines_204 rfl rfl ?_
                    refine k_iload cx 5 dL_areLines_205 rfl ?_
                    refine k_iconst cx 1 dL_areLines_207 (by decide) ?_
                    obtain ⟨q51, g52, h⟩ := bind_ok h
                    refine k_callV cx iv_L_57 (ci := 10) rfl (by decide) (w_X10_line (dn_some g47).2 g52) g47 (As := [.int v5_8, .int 1]) rfl rfl ⟨Nat.le_of_ble_eq_true rfl, Nat.le_of_ble_eq_true rfl⟩ (by simp [cat_rf, cat_i, cat_j]) dL_areLines_208 ?_
                    refine k_aload_n cx 1 dL_areLines_211 rfl rfl ?_
                    refine k_bipush cx 10 dL_areLines_212 (by decide) ?_
                    refine k_iload cx 5 dL_areLines_214 rfl ?_
                    refine k_imul cx dL_areLines_216 ?_
                    obtain ⟨j53, g54, h⟩ := bind_ok h
                    refine k_iald cx g4 g54 dL_areLines_217 ?_
                    refine k_icmp_ne cx 300 dL_areLines_218 (by decide) (fun c55 => ?_) (fun c55 => ?_)
                    · have h := ite_t h c55
                      refine k_iconst cx 0 dL_areLines_300 (by decide) ?_
                      have h := Option.some.inj h
                      have h := sb_ret h Hx2
                      exact k_zret cx hr hlk gz_0 (by rw [← h]) rfl dL_areLines_301
                    · have h := ite_f h c55
                      refine k_aload_n cx 0 dL_areLines_221 rfl rfl ?_
                      refine k_iload cx 5 dL_areLines_222 rfl ?_
                      refine k_iconst cx 2 dL_areLines_224 (by decide) ?_
                      obtain ⟨q56, g57, h⟩ := bind_ok h
                      refine k_callV cx iv_L_57 (ci := 10) rfl (by decide) (w_X10_line (dn_some g47).2 g57) g47 (As := [.int v5_8, .int 2]) rfl rfl ⟨Nat.le_of_ble_eq_true rfl, Nat.le_of_ble_eq_true rfl⟩ (by simp [cat_rf, cat_i, cat_j]) dL_areLines_225 ?_
                      refine k_aload_n cx 1 dL_areLines_228 rfl rfl ?_
                      refine k_bipush cx 10 dL_areLines_229 (by decide) ?_
                      refine k_iload cx 5 dL_areLines_231 rfl ?_
                      refine k_imul cx dL_areLines_233 ?_
                      refine k_iconst cx 5 dL_areLines_234 (by decide) ?_
                      refine k_iadd cx dL_areLines_235 ?_
                      obtain ⟨j58, g59, h⟩ := bind_ok h
                      refine k_iald cx g4 g59 dL_areLines_236 ?_
                      refine k_icmp_ne cx 300 dL_areLines_237 (by decide) (fun c60 => ?_) (fun c60 => ?_)
                      · have h := ite_t h c60
                        refine k_iconst cx 0 dL_areLines_300 (by decide) ?_
                        have h := Option.some.inj h
                        have h := sb_ret h Hx2
                        exact k_zret cx hr hlk gz_0 (by rw [← h]) rfl dL_areLines_301
                      · have h := ite_f h c60
                        refine k_aload_n cx 0 dL_areLines_240 rfl rfl ?_
                        refine k_iload cx 5 dL_areLines_241 rfl ?_
                        refine k_iconst cx 3 dL_areLines_243 (by decide) ?_
                        obtain ⟨q61, g62, h⟩ := bind_ok h
                        refine k_callV cx iv_L_57 (ci := 10) rfl (by decide) (w_X10_line (dn_some g47).2 g62) g47 (As := [.int v5_8, .int 3]) rfl rfl ⟨Nat.le_of_ble_eq_true rfl, Nat.le_of_ble_eq_true rfl⟩ (by simp [cat_rf, cat_i, cat_j]) dL_areLines_244 ?_
                        refine k_aload_n cx 1 dL_areLines_247 rfl rfl ?_
                        refine k_bipush cx 10 dL_areLines_248 (by decide) ?_
                        refine k_iload cx 5 dL_areLines_250 rfl ?_
                        refine k_imul cx dL_areLines_252 ?_
                        refine k_bipush cx 6 dL_areLines_253 (by decide) ?_
                        refine k_iadd cx dL_areLines_255 ?_
                        obtain ⟨j63, g64, h⟩ := bind_ok h
                        refine k_iald cx g4 g64 dL_areLines_256 ?_
                        refine k_icmp_ne cx 300 dL_areLines_257 (by decide) (fun c65 => ?_) (fun c65 => ?_)
                        · have h := ite_t h c65
                          refine k_iconst cx 0 dL_areLines_300 (by decide) ?_
                          have h := Option.some.inj h
                          have h := sb_ret h Hx2
                          exact k_zret cx hr hlk gz_0 (by rw [← h]) rfl dL_areLines_301
                        · have h := ite_f h c65
                          refine k_aload_n cx 0 dL_areLines_260 rfl rfl ?_
                          refine k_iload cx 5 dL_areLines_261 rfl ?_
                          refine k_iconst cx 4 dL_areLines_263 (by decide) ?_
                          obtain ⟨q66, g67, h⟩ := bind_ok h
                          refine k_callV cx iv_L_57 (ci := 10) rfl (by decide) (w_X10_line (dn_some g47).2 g67) g47 (As := [.int v5_8, .int 4]) rfl rfl ⟨Nat.le_of_ble_eq_true rfl, Nat.le_of_ble_eq_true rfl⟩ (by simp [cat_rf, cat_i, cat_j]) dL_areLines_264 ?_
                          refine k_iload cx 6 dL_areLines_267 rfl ?_
                          obtain ⟨x68, hxx68, h⟩ := bind_ok h
                          have Kx68 : Og p l e s m args below meth c Γ 11 4 88 σ (some (.int ρ)) σ 277 [(0, va_rf p1), (1, va_rf p2), (2, va_rf p3), (3, .int (v3_8 + x15)), (4, .int (v4_8 + x19)), (5, .int v5_8), (7, .int x22), (8, .int x31.1), (9, .int x31.2)] [.int x68, .int q66] σ := by
                            refine k_icmp_ne cx 300 dL_areLines_277 (by decide) (fun c70 => ?_) (fun c70 => ?_)
                            · have h := ite_t h c70
                              refine k_iconst cx 0 dL_areLines_300 (by decide) ?_
                              have h := Option.some.inj h
                              have h := sb_ret h Hx2
                              exact k_zret cx hr hlk gz_0 (by rw [← h]) rfl dL_areLines_301
                            · have h := ite_f h c70
                              refine k_aload_n cx 0 dL_areLines_280 rfl rfl ?_
                              refine k_iload cx 5 dL_areLines_281 rfl ?_
                              refine k_iconst cx 5 dL_areLines_283 (by decide) ?_
                              obtain ⟨q71, g72, h⟩ := bind_ok h
                              refine k_callV cx iv_L_57 (ci := 10) rfl (by decide) (w_X10_line (dn_some g47).2 g72) g47 (As := [.int v5_8, .int 5]) rfl rfl ⟨Nat.le_of_ble_eq_true rfl, Nat.le_of_ble_eq_true rfl⟩ (by simp [cat_rf, cat_i, cat_j]) dL_areLines_284 ?_
                              refine k_aload_n cx 1 dL_areLines_287 rfl rfl ?_
                              refine k_bipush cx 10 dL_areLines_288 (by decide) ?_
                              refine k_iload cx 5 dL_areLines_290 rfl ?_
                              refine k_imul cx dL_areLines_292 ?_
                              refine k_bipush cx 7 dL_areLines_293 (by decide) ?_
                              refine k_iadd cx dL_areLines_295 ?_
                              obtain ⟨j73, g74, h⟩ := bind_ok h
                              refine k_iald cx g4 g74 dL_areLines_296 ?_
                              refine k_icmp_eq cx 302 dL_areLines_297 (by decide) (fun c75 => ?_) (fun c75 => ?_)
                              · have h := ite_t h c75
                                refine k_aload_n cx 0 dL_areLines_302 rfl rfl ?_
                                refine k_iload cx 5 dL_areLines_303 rfl ?_
                                refine k_bipush cx 6 dL_areLines_305 (by decide) ?_
                                obtain ⟨q76, g77, h⟩ := bind_ok h
                                refine k_callV cx iv_L_57 (ci := 10) rfl (by decide) (w_X10_line (dn_some g47).2 g77) g47 (As := [.int v5_8, .int 6]) rfl rfl ⟨Nat.le_of_ble_eq_true rfl, Nat.le_of_ble_eq_true rfl⟩ (by simp [cat_rf, cat_i, cat_j]) dL_areLines_307 ?_
                                refine k_iload_n cx 3 dL_areLines_310 rfl rfl ?_
                                refine k_icmp_ne cx 387 dL_areLines_311 (by decide) (fun c78 => ?_) (fun c78 => ?_)
                                · have h := ite_t h c78
                                  refine k_iconst cx 0 dL_areLines_387 (by decide) ?_
                                  have h := Option.some.inj h
                                  have h := sb_ret h Hx2
                                  exact k_zret cx hr hlk gz_0 (by rw [← h]) rfl dL_areLines_388
                                · have h := ite_f h c78
                                  refine k_aload_n cx 0 dL_areLines_314 rfl rfl ?_
                                  refine k_iload cx 5 dL_areLines_315 rfl ?_
                                  refine k_bipush cx 7 dL_areLines_317 (by decide) ?_
                                  obtain ⟨q79, g80, h⟩ := bind_ok h
                                  refine k_callV cx iv_L_57 (ci := 10) rfl (by decide) (w_X10_line (dn_some g47).2 g80) g47 (As := [.int v5_8, .int 7]) rfl rfl ⟨Nat.le_of_ble_eq_true rfl, Nat.le_of_ble_eq_true rfl⟩ (by simp [cat_rf, cat_i, cat_j]) dL_areLines_319 ?_
                                  refine k_iload cx 8 dL_areLines_322 rfl ?_
                                  refine k_icmp_ne cx 387 dL_areLines_324 (by decide) (fun c81 => ?_) (fun c81 => ?_)
                                  · have h := ite_t h c81
                                    refine k_iconst cx 0 dL_areLines_387 (by decide) ?_
                                    have h := Option.some.inj h
                                    have h := sb_ret h Hx2
                                    exact k_zret cx hr hlk gz_0 (by rw [← h]) rfl dL_areLines_388
                                  · have h := ite_f h c81
                                    refine k_aload_n cx 0 dL_areLines_327 rfl rfl ?_
                                    refine k_iload cx 5 dL_areLines_328 rfl ?_
                                    refine k_bipush cx 8 dL_areLines_330 (by decide) ?_
                                    obtain ⟨q82, g83, h⟩ := bind_ok h
                                    refine k_callV cx iv_L_57 (ci := 10) rfl (by decide) (w_X10_line (dn_some g47).2 g83) g47 (As := [.int v5_8, .int 8]) rfl rfl ⟨Nat.le_of_ble_eq_true rfl, Nat.le_of_ble_eq_true rfl⟩ (by simp [cat_rf, cat_i, cat_j]) dL_areLines_332 ?_
                                    refine k_iload cx 7 dL_areLines_335 rfl ?_
                                    refine k_icmp_ne cx 387 dL_areLines_337 (by decide) (fun c84 => ?_) (fun c84 => ?_)
                                    · have h := ite_t h c84
                                      refine k_iconst cx 0 dL_areLines_387 (by decide) ?_
                                      have h := Option.some.inj h
                                      have h := sb_ret h Hx2
                                      exact k_zret cx hr hlk gz_0 (by rw [← h]) rfl dL_areLines_388
                                    · have h := ite_f h c84
                                      refine k_aload_n cx 0 dL_areLines_340 rfl rfl ?_
                                      refine k_iload cx 5 dL_areLines_341 rfl ?_
                                      refine k_bipush cx 9 dL_areLines_343 (by decide) ?_
                                      obtain ⟨q85, g86, h⟩ := bind_ok h
                                      refine k_callV cx iv_L_57 (ci := 10) rfl (by decide) (w_X10_line (dn_some g47).2 g86) g47 (As := [.int v5_8, .int 9]) rfl rfl ⟨Nat.le_of_ble_eq_true rfl, Nat.le_of_ble_eq_true rfl⟩ (by simp [cat_rf, cat_i, cat_j]) dL_areLines_345 ?_
                                      refine k_iload cx 4 dL_areLines_348 rfl ?_
                                      refine k_icmp_ne cx 387 dL_areLines_350 (by decide) (fun c87 => ?_) (fun c87 => ?_)
                                      · have h := ite_t h c87
                                        refine k_iconst cx 0 dL_areLines_387 (by decide) ?_
                                        have h := Option.some.inj h
                                        have h := sb_ret h Hx2
                                        exact k_zret cx hr hlk gz_0 (by rw [← h]) rfl dL_areLines_388
                                      · have h := ite_f h c87
                                        refine k_aload_n cx 0 dL_areLines_353 rfl rfl ?_
                                        refine k_iload cx 5 dL_areLines_354 rfl ?_
                                        refine k_iload cx 6 dL_areLines_356 rfl ?_
                                        refine k_aload_n cx 1 dL_areLines_358 rfl rfl ?_
                                        refine k_bipush cx 10 dL_areLines_359 (by decide) ?_
                                        refine k_iload cx 5 dL_areLines_361 rfl ?_
                                        refine k_imul cx dL_areLines_363 ?_
                                        obtain ⟨j88, g89, h⟩ := bind_ok h
                                        refine k_iald cx g4 g89 dL_areLines_364 ?_
                                        refine k_iadd cx dL_areLines_365 ?_
                                        refine k_iconst cx 1 dL_areLines_366 (by decide) ?_
                                        refine k_isub cx dL_areLines_367 ?_
                                        obtain ⟨q90, g91, h⟩ := bind_ok h
                                        refine k_callV cx iv_L_60 (ci := 10) rfl (by decide) (w_X10_letter (dn_some g47).2 g91) g47 (As := [.int v5_8, .int ((x22 + (hpA σ a3 j88)) - 1)]) rfl rfl ⟨Nat.le_of_ble_eq_true rfl, Nat.le_of_ble_eq_true rfl⟩ (by simp [cat_rf, cat_i, cat_j]) dL_areLines_368 ?_
                                        refine k_iconst cx (-1) dL_areLines_371 (by decide) ?_
                                        refine k_icmp_ne cx 387 dL_areLines_372 (by decide) (fun c92 => ?_) (fun c92 => ?_)
                                        · have h := ite_t h c92
                                          refine k_iconst cx 0 dL_areLines_387 (by decide) ?_
                                          have h := Option.some.inj h
                                          have h := sb_ret h Hx2
                                          exact k_zret cx hr hlk gz_0 (by rw [← h]) rfl dL_areLines_388
                                        · have h := ite_f h c92
                                          refine k_aload_n cx 0 dL_areLines_375 rfl rfl ?_
                                          refine k_iload cx 5 dL_areLines_376 rfl ?_
                                          refine k_iconst cx (-1) dL_areLines_378 (by decide) ?_
                                          obtain ⟨q93, g94, h⟩ := bind_ok h
                                          refine k_callV cx iv_L_60 (ci := 10) rfl (by decide) (w_X10_letter (dn_some g47).2 g94) g47 (As := [.int v5_8, .int (-1)]) rfl rfl ⟨Nat.le_of_ble_eq_true rfl, Nat.le_of_ble_eq_true rfl⟩ (by simp [cat_rf, cat_i, cat_j]) dL_areLines_379 ?_
                                          refine k_bipush cx (-2) dL_areLines_382 (by decide) ?_
                                          refine k_icmp_eq cx 389 dL_areLines_384 (by decide) (fun c95 => ?_) (fun c95 => ?_)
                                          · have h := ite_t h c95
                                            refine k_iinc cx 5 [(5, .int (v5_8 + 1)), (0, va_rf p1), (1, va_rf p2), (2, va_rf p3), (3, .int (v3_8 + x15)), (4, .int (v4_8 + x19)), (7, .int x22), (8, .int x31.1), (9, .int x31.2)] (v5_8 + 1) dL_areLines_389 rfl rfl (by decide) (by simp [cat_rf, cat_i, cat_j]) ?_
                                            refine k_goto cx 8 dL_areLines_392 (by decide) ?_
                                            refine k_sub [1, 2, 3, 4, 5, 0] rfl ?_
                                            exact ihx2 _ _ _ h
                                          · have h := ite_f h c95
                                            refine k_iconst cx 0 dL_areLines_387 (by decide) ?_
                                            have h := Option.some.inj h
                                            have h := sb_ret h Hx2
                                            exact k_zret cx hr hlk gz_0 (by rw [← h]) rfl dL_areLines_388
                              · have h := ite_f h c75
                                refine k_iconst cx 0 dL_areLines_300 (by decide) ?_
                                have h := Option.some.inj h
                                have h := sb_ret h Hx2
                                exact k_zret cx hr hlk gz_0 (by rw [← h]) rfl dL_areLines_301
                          have h := hxx68
                          refine k_if_eq cx 276 dL_areLines_269 (by decide) (fun c69 => ?_) (fun c69 => ?_)
                          · have h := ite_t h c69
                            refine k_iconst cx 0 dL_areLines_276 (by decide) ?_
                            refine k_sub [0, 1, 2, 3, 4, 5, 7, 8, 9] rfl ?_
                            obtain rfl := Option.some.inj h
                            exact Kx68
                          · have h := ite_f h c69
                            refine k_iconst cx 1 dL_areLines_272 (by decide) ?_
                            refine k_goto cx 277 dL_areLines_273 (by decide) ?_
                            refine k_sub [0, 1, 2, 3, 4, 5, 7, 8, 9] rfl ?_
                            obtain rfl := Option.some.inj h
                            exact Kx68
                have KLx31 : ∀ (n : Nat) (v8_129 : Int32) (v9_129 : Int32) (v10_129 : Int32), LL_areLines_129 n σ p1 p2 p3 (v3_8 + x15) (v4_8 + x19) v5_8 x10 x22 v8_129 v9_129 v10_129 = some x31 → Og p l e s m args below meth c Γ 11 4 88 σ (some (.int ρ)) σ 129 [(0, va_rf p1), (1, va_rf p2), (2, va_rf p3), (3, .int (v3_8 + x15)), (4, .int (v4_8 + x19)), (5, .int v5_8), (6, .int x10), (7, .int x22), (8, .int v8_129), (9, .int v9_129), (10, .int v10_129)] [] σ := by
                  intro n
                  induction n with
                  | zero => intro _ _ _ h; cases (show (none : Option _) = some x31 from h)
                  | succ n ihx31 =>
                    intro v8_129 v9_129 v10_129 h
                    rw [LL_areLines_129] at h
                    refine k_iload cx 10 dL_areLines_129 rfl ?_
                    refine k_aload_n cx 2 dL_areLines_131 rfl rfl ?_
                    refine k_bipush cx 63 dL_areLines_132 (by decide) ?_
                    obtain ⟨a32, g33, h⟩ := bind_ok h
                    obtain ⟨j34, g35, h⟩ := bind_ok h
                    refine k_iald cx g33 g35 dL_areLines_134 ?_
                    refine k_icmp_ge cx 192 dL_areLines_135 (by decide) (fun c36 => ?_) (fun c36 => ?_)
                    · have h := ite_t h c36
                      refine k_sub [0, 1, 2, 3, 4, 5, 6, 7, 8, 9] rfl ?_
                      obtain rfl := Option.some.inj h
                      exact Kx31
                    · have h := ite_f h c36
                      refine k_iload cx 8 dL_areLines_138 rfl ?_
                      refine k_aload_n cx 2 dL_areLines_140 rfl rfl ?_
                      refine k_iload cx 10 dL_areLines_141 rfl ?_
                      obtain ⟨j37, g38, h⟩ := bind_ok h
                      refine k_iald cx g33 g38 dL_areLines_143 ?_
                      refine k_bipush cx 15 dL_areLines_144 (by decide) ?_
                      refine k_iand cx dL_areLines_146 ?_
                      refine k_iload cx 5 dL_areLines_147 rfl ?_
                      obtain ⟨x39, hxx39, h⟩ := bind_ok h
                      have Kx39 : Og p l e s m args below meth c Γ 11 4 88 σ (some (.int ρ)) σ 157 [(0, va_rf p1), (1, va_rf p2), (2, va_rf p3), (3, .int (v3_8 + x15)), (4, .int (v4_8 + x19)), (5, .int v5_8), (6, .int x10), (7, .int x22), (9, .int v9_129), (10, .int v10_129)] [.int x39, .int v8_129] σ := by
                        refine k_iadd cx dL_areLines_157 ?_
                        refine k_istore cx [(8, .int (v8_129 + x39)), (0, va_rf p1), (1, va_rf p2), (2, va_rf p3), (3, .int (v3_8 + x15)), (4, .int (v4_8 + x19)), (5, .int v5_8), (6, .int x10), (7, .int x22), (9, .int v9_129), (10, .int v10_129)] dL_areLines_158 (by decide) (by simp [cat_rf, cat_i, cat_j]) ?_
                        refine k_iload cx 9 dL_areLines_160 rfl ?_
                        obtain ⟨x41, hxx41, h⟩ := bind_ok h
                        have Kx41 : Og p l e s m args below meth c Γ 11 4 88 σ (some (.int ρ)) σ 184 [(0, va_rf p1), (1, va_rf p2), (2, va_rf p3), (3, .int (v3_8 + x15)), (4, .int (v4_8 + x19)), (5, .int v5_8), (6, .int x10), (7, .int x22), (8, .int (v8_129 + x39)), (10, .int v10_129)] [.int x41] σ := by
                          refine k_istore cx [(9, .int x41), (0, va_rf p1), (1, va_rf p2), (2, va_rf p3), (3, .int (v3_8 + x15)), (4, .int (v4_8 + x19)), (5, .int v5_8), (6, .int x10), (7, .int x22), (8, .int (v8_129 + x39)), (10, .int v10_129)] dL_areLines_184 (by decide) (by simp [cat_rf, cat_i, cat_j]) ?_
                          refine k_iinc cx 10 [(10, .int (v10_129 + 1)), (9, .int x41), (0, va_rf p1), (1, va_rf p2), (2, va_rf p3), (3, .int (v3_8 + x15)), (4, .int (v4_8 + x19)), (5, .int v5_8), (6, .int x10), (7, .int x22), (8, .int (v8_129 + x39))] (v10_129 + 1) dL_areLines_186 rfl rfl (by decide) (by simp [cat_rf, cat_i, cat_j]) ?_
                          refine k_goto cx 129 dL_areLines_189 (by decide) ?_
                          refine k_sub [2, 3, 4, 5, 6, 7, 8, 9, 10, 1, 0] rfl ?_
                          exact ihx31 _ _ _ h
                        have h := hxx41
                        refine k_if_ge cx 182 dL_areLines_162 (by decide) (fun c42 => ?_) (fun c42 => ?_)
                        · have h := ite_t h c42
                          refine k_iload cx 9 dL_areLines_182 rfl ?_
                          refine k_sub [1, 2, 3, 4, 5, 6, 7, 8, 0, 10] rfl ?_
                          obtain rfl := Option.some.inj h
                          exact Kx41
                        · have h := ite_f h c42
                          refine k_aload_n cx 3 dL_areLines_165 rfl rfl ?_
                          refine k_iload cx 10 dL_areLines_166 rfl ?_
                          obtain ⟨j43, g44, h⟩ := bind_ok h
                          refine k_iald cx g33 g44 dL_areLines_168 ?_
                          refine k_bipush cx 15 dL_areLines_169 (by decide) ?_
                          refine k_iand cx dL_areLines_171 ?_
                          refine k_iload cx 6 dL_areLines_172 rfl ?_
                          refine k_icmp_ne cx 182 dL_areLines_174 (by decide) (fun c45 => ?_) (fun c45 => ?_)
                          · have h := ite_t h c45
                            refine k_iload cx 9 dL_areLines_182 rfl ?_
                            refine k_sub [1, 2, 3, 4, 5, 6, 7, 8, 0, 10] rfl ?_
                            obtain rfl := Option.some.inj h
                            exact Kx41
                          · have h := ite_f h c45
                            refine k_iload cx 10 dL_areLines_177 rfl ?_
                            refine k_goto cx 184 dL_areLines_179 (by decide) ?_
                            refine k_sub [1, 2, 3, 4, 5, 6, 7, 8, 0, 10] rfl ?_
                            obtain rfl := Option.some.inj h
                            exact Kx41
                      have h := hxx39
                      refine k_icmp_ne cx 156 dL_areLines_149 (by decide) (fun c40 => ?_) (fun c40 => ?_)
                      · have h := ite_t h c40
                        refine k_iconst cx 0 dL_areLines_156 (by decide) ?_
                        refine k_sub [0, 1, 2, 3, 4, 5, 6, 7, 9, 10] rfl ?_
                        obtain rfl := Option.some.inj h
                        exact Kx39
                      · have h := ite_f h c40
                        refine k_iconst cx 1 dL_areLines_152 (by decide) ?_
                        refine k_goto cx 157 dL_areLines_153 (by decide) ?_
                        refine k_sub [0, 1, 2, 3, 4, 5, 6, 7, 9, 10] rfl ?_
                        obtain rfl := Option.some.inj h
                        exact Kx39
                refine k_sub [1, 2, 3, 4, 5, 6, 7, 8, 9, 10, 0] rfl ?_
                exact KLx31 FU _ _ _ hxx31
              have KLx22 : ∀ (n : Nat) (v7_91 : Int32) (v10_91 : Int32), LL_areLines_91 n σ p1 p2 p3 (v3_8 + x15) (v4_8 + x19) v5_8 x10 0 (-1) v7_91 v10_91 = some x22 → Og p l e s m args below meth c Γ 11 4 88 σ (some (.int ρ)) σ 91 [(0, va_rf p1), (1, va_rf p2), (2, va_rf p3), (3, .int (v3_8 + x15)), (4, .int (v4_8 + x19)), (5, .int v5_8), (6, .int x10), (7, .int v7_91), (8, .int 0), (9, .int (-1)), (10, .int v10_91)] [] σ := by
                intro n
                induction n with
                | zero => intro _ _ h; cases (show (none : Option _) = some x22 from h)
                | succ n ihx22 =>
                  intro v7_91 v10_91 h
                  rw [LL_areLines_91] at h
                  refine k_iload cx 10 dL_areLines_91 rfl ?_
                  refine k_aload_n cx 1 dL_areLines_93 rfl rfl ?_
                  refine k_bipush cx 10 dL_areLines_94 (by decide) ?_
                  refine k_iload cx 5 dL_areLines_96 rfl ?_
                  refine k_imul cx dL_areLines_98 ?_
                  obtain ⟨a23, g24, h⟩ := bind_ok h
                  obtain ⟨j25, g26, h⟩ := bind_ok h
                  refine k_iald cx g24 g26 dL_areLines_99 ?_
                  refine k_icmp_ge cx 126 dL_areLines_100 (by decide) (fun c27 => ?_) (fun c27 => ?_)
                  · have h := ite_t h c27
                    refine k_sub [0, 1, 2, 3, 4, 5, 6, 7, 8, 9] rfl ?_
                    obtain rfl := Option.some.inj h
                    exact Kx22
                  · have h := ite_f h c27
                    refine k_iload cx 7 dL_areLines_103 rfl ?_
                    refine k_aload_n cx 1 dL_areLines_105 rfl rfl ?_
                    refine k_bipush cx 10 dL_areLines_106 (by decide) ?_
                    refine k_iload cx 5 dL_areLines_108 rfl ?_
                    refine k_imul cx dL_areLines_110 ?_
                    refine k_iconst cx 1 dL_areLines_111 (by decide) ?_
                    refine k_iadd cx dL_areLines_112 ?_
                    refine k_iload cx 10 dL_areLines_113 rfl ?_
                    refine k_iadd cx dL_areLines_115 ?_
                    obtain ⟨j28, g29, h⟩ := bind_ok h
                    refine k_iald cx g24 g29 dL_areLines_116 ?_
                    refine k_iadd cx dL_areLines_117 ?_
                    refine k_istore cx [(7, .int (v7_91 + (hpA σ a23 j28))), (0, va_rf p1), (1, va_rf p2), (2, va_rf p3), (3, .int (v3_8 + x15)), (4, .int (v4_8 + x19)), (5, .int v5_8), (6, .int x10), (8, .int 0), (9, .int (-1)), (10, .int v10_91)] dL_areLines_118 (by decide) (by simp [cat_rf, cat_i, cat_j]) ?_
                    refine k_iinc cx 10 [(10, .int (v10_91 + 1)), (7, .int (v7_91 + (hpA σ a23 j28))), (0, va_rf p1), (1, va_rf p2), (2, va_rf p3), (3, .int (v3_8 + x15)), (4, .int (v4_8 + x19)), (5, .int v5_8), (6, .int x10), (8, .int 0), (9, .int (-1))] (v10_91 + 1) dL_areLines_120 rfl rfl (by decide) (by simp [cat_rf, cat_i, cat_j]) ?_
                    refine k_goto cx 91 dL_areLines_123 (by decide) ?_
                    refine k_sub [2, 3, 4, 5, 6, 7, 8, 1, 9, 10, 0] rfl ?_
                    exact ihx22 _ _ h
              refine k_sub [2, 3, 4, 5, 1, 6, 7, 8, 9, 10, 0] rfl ?_
              exact KLx22 FU _ _ hxx22
            have h := hxx19
            refine k_if_eq cx 84 dL_areLines_77 (by decide) (fun c20 => ?_) (fun c20 => ?_)
            · have h := ite_t h c20
              refine k_iconst cx 0 dL_areLines_84 (by decide) ?_
              refine k_sub [1, 2, 3, 0, 5, 6, 7, 8, 9] rfl ?_
              obtain rfl := Option.some.inj h
              exact Kx19
            · have h := ite_f h c20
              refine k_iconst cx 1 dL_areLines_80 (by decide) ?_
              refine k_goto cx 85 dL_areLines_81 (by decide) ?_
              refine k_sub [1, 2, 3, 0, 5, 6, 7, 8, 9] rfl ?_
              obtain rfl := Option.some.inj h
              exact Kx19
          have h := hxx15
          refine k_if_eq cx 66 dL_areLines_59 (by decide) (fun c16 => ?_) (fun c16 => ?_)
          · have h := ite_t h c16
            refine k_iconst cx 1 dL_areLines_66 (by decide) ?_
            refine k_sub [4, 5, 6, 8, 9, 3, 2, 1, 0] rfl ?_
            obtain rfl := Option.some.inj h
            exact Kx15
          · have h := ite_f h c16
            refine k_iconst cx 0 dL_areLines_62 (by decide) ?_
            refine k_goto cx 67 dL_areLines_63 (by decide) ?_
            refine k_sub [4, 5, 6, 8, 9, 3, 2, 1, 0] rfl ?_
            obtain rfl := Option.some.inj h
            exact Kx15
        have h := hxx10
        refine k_icmp_ne cx 44 dL_areLines_28 (by decide) (fun c11 => ?_) (fun c11 => ?_)
        · have h := ite_t h c11
          refine k_iconst cx 0 dL_areLines_44 (by decide) ?_
          obtain rfl := Option.some.inj h
          exact Kx10
        · have h := ite_f h c11
          refine k_aload_n cx 1 dL_areLines_31 rfl rfl ?_
          refine k_iload cx 5 dL_areLines_32 rfl ?_
          obtain ⟨q12, g13, h⟩ := bind_ok h
          refine k_callS cx iv_L_42 (w_L_isFirst g13) (As := [va_rf p2, .int v5_8]) rfl rfl ⟨Nat.le_of_ble_eq_true rfl, Nat.le_of_ble_eq_true rfl⟩ (by simp [cat_rf, cat_i, cat_j]) dL_areLines_34 ?_
          refine k_if_ne cx 44 dL_areLines_37 (by decide) (fun c14 => ?_) (fun c14 => ?_)
          · have h := ite_t h c14
            refine k_iconst cx 0 dL_areLines_44 (by decide) ?_
            obtain rfl := Option.some.inj h
            exact Kx10
          · have h := ite_f h c14
            refine k_iconst cx 1 dL_areLines_40 (by decide) ?_
            refine k_goto cx 45 dL_areLines_41 (by decide) ?_
            obtain rfl := Option.some.inj h
            exact Kx10
  refine k_sub [3, 4, 5, 2, 1, 0] rfl ?_
  exact KLx2 FU _ _ _ hxx2
set_option maxRecDepth 100000 in
set_option maxHeartbeats 4000000 in
theorem w_L_areRows {Γ : GE} {σ : St} {p1 : Option Nat} {p2 : Option Nat} {p3 : Option Nat} {p4 : Option Nat} {ρ : Int32} (h : f_L_areRows σ p1 p2 p3 p4 = some ρ) : Ct Γ yL_areRows cL_areRows 19 (some .boolean) 4 88 [va_rf p1, va_rf p2, va_rf p3, va_rf p4] σ (some (.int ρ)) σ := by
  refine ct_intro (own := RL) (L0 := [(0, va_rf p1), (1, va_rf p2), (2, va_rf p3), (3, va_rf p4)]) (by decide +kernel) rfl (by simp [lg_sl, cat_rf, cat_i, cat_j]) (by simp [lv_args, cat_rf, cat_i, cat_j]) ?_
  intro p l e s m args below meth c hr hlk hin cx
  unfold f_L_areRows at h
  refine k_iconst cx 0 dL_areRows_0 (by decide) ?_
  refine k_istore cx [(4, .int 0), (0, va_rf p1), (1, va_rf p2), (2, va_rf p3), (3, va_rf p4)] dL_areRows_1 (by decide) (by simp [cat_rf, cat_i, cat_j]) ?_
  refine k_iconst cx 0 dL_areRows_3 (by decide) ?_
  refine k_istore cx [(5, .int 0), (4, .int 0), (0, va_rf p1), (1, va_rf p2), (2, va_rf p3), (3, va_rf p4)] dL_areRows_4 (by decide) (by simp [cat_rf, cat_i, cat_j]) ?_
  refine k_iconst cx 0 dL_areRows_6 (by decide) ?_
  refine k_istore cx [(6, .int 0), (5, .int 0), (4, .int 0), (0, va_rf p1), (1, va_rf p2), (2, va_rf p3), (3, va_rf p4)] dL_areRows_7 (by decide) (by simp [cat_rf, cat_i, cat_j]) ?_
  refine k_iconst cx 0 dL_areRows_9 (by decide) ?_
  refine k_istore cx [(7, .int 0), (6, .int 0), (5, .int 0), (4, .int 0), (0, va_rf p1), (1, va_rf p2), (2, va_rf p3), (3, va_rf p4)] dL_areRows_10 (by decide) (by simp [cat_rf, cat_i, cat_j]) ?_
  obtain ⟨x2, hxx2, Hx2⟩ := sb_ok h
  have Kx2 : ∀ wx2, .inr wx2 = x2 → Og p l e s m args below meth c Γ 19 4 88 σ (some (.int ρ)) σ 397 [(0, va_rf p1), (3, va_rf p4), (4, .int wx2.1), (5, .int wx2.2.1), (6, .int wx2.2.2)] [] σ := by
    intro wx2 hw
    have h := sb_inr hw Hx2
    refine k_aload_n cx 0 dL_areRows_397 rfl rfl ?_
    refine k_iconst cx 2 dL_areRows_398 (by decide) ?_
    obtain ⟨a111, g112, h⟩ := bind_ok h
    obtain ⟨q113, g114, h⟩ := bind_ok h
    refine k_callV cx iv_L_29 (ci := 10) rfl (by decide) (w_X10_count (dn_some g112).2 g114) g112 (As := [.int 2]) rfl rfl ⟨Nat.le_of_ble_eq_true rfl, Nat.le_of_ble_eq_true rfl⟩ (by simp [cat_rf, cat_i, cat_j]) dL_areRows_399 ?_
    refine k_aload_n cx 1 dL_areRows_402 rfl rfl ?_
    refine k_bipush cx 63 dL_areRows_403 (by decide) ?_
    obtain ⟨a115, g116, h⟩ := bind_ok h
    obtain ⟨j117, g118, h⟩ := bind_ok h
    refine k_iald cx g116 g118 dL_areRows_405 ?_
    refine k_icmp_ne cx 480 dL_areRows_406 (by decide) (fun c119 => ?_) (fun c119 => ?_)
    · have h := ite_t h c119
      refine k_iconst cx 0 dL_areRows_480 (by decide) ?_
      have h := Option.some.inj h
      exact k_zret cx hr hlk gz_0 (by rw [← h]) rfl dL_areRows_481
    · have h := ite_f h c119
      refine k_aload_n cx 0 dL_areRows_409 rfl rfl ?_
      refine k_iconst cx 4 dL_areRows_410 (by decide) ?_
      obtain ⟨q120, g121, h⟩ := bind_ok h
      refine k_callV cx iv_L_29 (ci := 10) rfl (by decide) (w_X10_count (dn_some g112).2 g121) g112 (As := [.int 4]) rfl rfl ⟨Nat.le_of_ble_eq_true rfl, Nat.le_of_ble_eq_true rfl⟩ (by simp [cat_rf, cat_i, cat_j]) dL_areRows_411 ?_
      refine k_iload cx 2 dL_areRows_414 rfl ?_
      refine k_icmp_ne cx 480 dL_areRows_416 (by decide) (fun c122 => ?_) (fun c122 => ?_)
      · have h := ite_t h c122
        refine k_iconst cx 0 dL_areRows_480 (by decide) ?_
        have h := Option.some.inj h
        exact k_zret cx hr hlk gz_0 (by rw [← h]) rfl dL_areRows_481
      · have h := ite_f h c122
        refine k_aload_n cx 0 dL_areRows_419 rfl rfl ?_
        refine k_iconst cx 5 dL_areRows_420 (by decide) ?_
        obtain ⟨q123, g124, h⟩ := bind_ok h
        refine k_callV cx iv_L_29 (ci := 10) rfl (by decide) (w_X10_count (dn_some g112).2 g124) g112 (As := [.int 5]) rfl rfl ⟨Nat.le_of_ble_eq_true rfl, Nat.le_of_ble_eq_true rfl⟩ (by simp [cat_rf, cat_i, cat_j]) dL_areRows_421 ?_
        refine k_iload cx 3 dL_areRows_424 rfl ?_
        refine k_icmp_ne cx 480 dL_areRows_426 (by decide) (fun c125 => ?_) (fun c125 => ?_)
        · have h := ite_t h c125
          refine k_iconst cx 0 dL_areRows_480 (by decide) ?_
          have h := Option.some.inj h
          exact k_zret cx hr hlk gz_0 (by rw [← h]) rfl dL_areRows_481
        · have h := ite_f h c125
          refine k_aload_n cx 0 dL_areRows_429 rfl rfl ?_
          refine k_bipush cx 8 dL_areRows_430 (by decide) ?_
          obtain ⟨q126, g127, h⟩ := bind_ok h
          refine k_callV cx iv_L_29 (ci := 10) rfl (by decide) (w_X10_count (dn_some g112).2 g127) g112 (As := [.int 8]) rfl rfl ⟨Nat.le_of_ble_eq_true rfl, Nat.le_of_ble_eq_true rfl⟩ (by simp [cat_rf, cat_i, cat_j]) dL_areRows_432 ?_
          refine k_iload cx 4 dL_areRows_435 rfl ?_
          refine k_icmp_ne cx 480 dL_areRows_437 (by decide) (fun c128 => ?_) (fun c128 => ?_)
          · have h := ite_t h c128
            refine k_iconst cx 0 dL_areRows_480 (by decide) ?_
            have h := Option.some.inj h
            exact k_zret cx hr hlk gz_0 (by rw [← h]) rfl dL_areRows_481
          · have h := ite_f h c128
            refine k_aload_n cx 0 dL_areRows_440 rfl rfl ?_
            refine k_aload_n cx 1 dL_areRows_441 rfl rfl ?_
            refine k_bipush cx 63 dL_areRows_442 (by decide) ?_
            obtain ⟨j129, g130, h⟩ := bind_ok h
            refine k_iald cx g116 g130 dL_areRows_444 ?_
            refine k_iconst cx 0 dL_areRows_445 (by decide) ?_
            obtain ⟨q131, g132, h⟩ := bind_ok h
            refine k_callV cx iv_L_63 (ci := 10) rfl (by decide) (w_X10_row (dn_some g112).2 g132) g112 (As := [.int (hpA σ a115 j129), .int 0]) rfl rfl ⟨Nat.le_of_ble_eq_true rfl, Nat.le_of_ble_eq_true rfl⟩ (by simp [cat_rf, cat_i, cat_j]) dL_areRows_446 ?_
            refine k_iconst cx (-1) dL_areRows_449 (by decide) ?_
            refine k_icmp_ne cx 480 dL_areRows_450 (by decide) (fun c133 => ?_) (fun c133 => ?_)
            · have h := ite_t h c133
              refine k_iconst cx 0 dL_areRows_480 (by decide) ?_
              have h := Option.some.inj h
              exact k_zret cx hr hlk gz_0 (by rw [← h]) rfl dL_areRows_481
            · have h := ite_f h c133
              refine k_aload_n cx 0 dL_areRows_453 rfl rfl ?_
              refine k_iconst cx (-1) dL_areRows_454 (by decide) ?_
              refine k_iconst cx 0 dL_areRows_455 (by decide) ?_
              obtain ⟨q134, g135, h⟩ := bind_ok h
              refine k_callV cx iv_L_63 (ci := 10) rfl (by decide) (w_X10_row (dn_some g112).2 g135) g112 (As := [.int (-1), .int 0]) rfl rfl ⟨Nat.le_of_ble_eq_true rfl, Nat.le_of_ble_eq_true rfl⟩ (by simp [cat_rf, cat_i, cat_j]) dL_areRows_456 ?_
              refine k_bipush cx (-2) dL_areRows_459 (by decide) ?_
              refine k_icmp_ne cx 480 dL_areRows_461 (by decide) (fun c136 => ?_) (fun c136 => ?_)
              · have h := ite_t h c136
                refine k_iconst cx 0 dL_areRows_480 (by decide) ?_
                have h := Option.some.inj h
                exact k_zret cx hr hlk gz_0 (by rw [← h]) rfl dL_areRows_481
              · have h := ite_f h c136
                refine k_aload_n cx 0 dL_areRows_464 rfl rfl ?_
                refine k_iconst cx 0 dL_areRows_465 (by decide) ?_
                refine k_bipush cx 9 dL_areRows_466 (by decide) ?_
                obtain ⟨q137, g138, h⟩ := bind_ok h
                refine k_callV cx iv_L_63 (ci := 10) rfl (by decide) (w_X10_row (dn_some g112).2 g138) g112 (As := [.int 0, .int 9]) rfl rfl ⟨Nat.le_of_ble_eq_true rfl, Nat.le_of_ble_eq_true rfl⟩ (by simp [cat_rf, cat_i, cat_j]) dL_areRows_468 ?_
                refine k_bipush cx (-2) dL_areRows_471 (by decide) ?_
                refine k_icmp_ne cx 480 dL_areRows_473 (by decide) (fun c139 => ?_) (fun c139 => ?_)
                · have h := ite_t h c139
                  refine k_iconst cx 0 dL_areRows_480 (by decide) ?_
                  have h := Option.some.inj h
                  exact k_zret cx hr hlk gz_0 (by rw [← h]) rfl dL_areRows_481
                · have h := ite_f h c139
                  refine k_iconst cx 1 dL_areRows_476 (by decide) ?_
                  refine k_goto cx 481 dL_areRows_477 (by decide) ?_
                  have h := Option.some.inj h
                  exact k_zret cx hr hlk gz_1 (by rw [← h]) rfl dL_areRows_481
  have KLx2 : ∀ (n : Nat) (v4_12 : Int32) (v5_12 : Int32) (v6_12 : Int32) (v7_12 : Int32), LL_areRows_12 n σ p1 p2 p3 p4 v4_12 v5_12 v6_12 v7_12 = some x2 → Og p l e s m args below meth c Γ 19 4 88 σ (some (.int ρ)) σ 12 [(0, va_rf p1), (1, va_rf p2), (2, va_rf p3), (3, va_rf p4), (4, .int v4_12), (5, .int v5_12), (6, .int v6_12), (7, .int v7_12)] [] σ := by
    intro n
    induction n with
    | zero => intro _ _ _ _ h; cases (show (none : Option _) = some x2 from h)
    | succ n ihx2 =>
      intro v4_12 v5_12 v6_12 v7_12 h
      rw [LL_areRows_12] at h
      refine k_iload cx 7 dL_areRows_12 rfl ?_
      refine k_aload_n cx 3 dL_areRows_14 rfl rfl ?_
      refine k_bipush cx 63 dL_areRows_15 (by decide) ?_
      obtain ⟨a3, g4, h⟩ := bind_ok h
      obtain ⟨j5, g6, h⟩ := bind_ok h
      refine k_iald cx g4 g6 dL_areRows_17 ?_
      refine k_icmp_ge cx 397 dL_areRows_18 (by decide) (fun c7 => ?_) (fun c7 => ?_)
      · have h := ite_t h c7
        refine k_sub [0, 3, 4, 5, 6] rfl ?_
        exact Kx2 _ (Option.some.inj h)
      · have h := ite_f h c7
        refine k_aload_n cx 3 dL_areRows_21 rfl rfl ?_
        refine k_iload cx 7 dL_areRows_22 rfl ?_
        obtain ⟨j8, g9, h⟩ := bind_ok h
        refine k_iald cx g4 g9 dL_areRows_24 ?_
        refine k_bipush cx 15 dL_areRows_25 (by decide) ?_
        refine k_iand cx dL_areRows_27 ?_
        refine k_istore cx [(8, .int ((hpA σ a3 j8) &&& 15)), (0, va_rf p1), (1, va_rf p2), (2, va_rf p3), (3, va_rf p4), (4, .int v4_12), (5, .int v5_12), (6, .int v6_12), (7, .int v7_12)] dL_areRows_28 (by decide) (by simp [cat_rf, cat_i, cat_j]) ?_
        refine k_aload_n cx 4 dL_areRows_30 rfl rfl ?_
        refine k_iload cx 8 dL_areRows_31 rfl ?_
        obtain ⟨j10, g11, h⟩ := bind_ok h
        refine k_iald cx g4 g11 dL_areRows_33 ?_
        refine k_iconst cx 4 dL_areRows_34 (by decide) ?_
        refine k_ishr cx dL_areRows_35 ?_
        refine k_bipush cx 15 dL_areRows_36 (by decide) ?_
        refine k_iand cx dL_areRows_38 ?_
        refine k_istore cx [(9, .int (((hpA σ a3 j10) >>> (4 &&& 31)) &&& 15)), (8, .int ((hpA σ a3 j8) &&& 15)), (0, va_rf p1), (1, va_rf p2), (2, va_rf p3), (3, va_rf p4), (4, .int v4_12), (5, .int v5_12), (6, .int v6_12), (7, .int v7_12)] dL_areRows_39 (by decide) (by simp [cat_rf, cat_i, cat_j]) ?_
        refine k_aload_n cx 5 dL_areRows_41 rfl rfl ?_
        refine k_iload cx 9 dL_areRows_42 rfl ?_
        obtain ⟨j12, g13, h⟩ := bind_ok h
        refine k_iald cx g4 g13 dL_areRows_44 ?_
        obtain ⟨q14, g15, h⟩ := bind_ok h
        refine k_callS cx iv_L_46 (w_L_first g15) (As := [.int (hpA σ a3 j12)]) rfl rfl ⟨Nat.le_of_ble_eq_true rfl, Nat.le_of_ble_eq_true rfl⟩ (by simp [cat_rf, cat_i, cat_j]) dL_areRows_45 ?_
        refine k_aload_n cx 5 dL_areRows_48 rfl rfl ?_
        refine k_iload cx 9 dL_areRows_49 rfl ?_
        obtain ⟨j16, g17, h⟩ := bind_ok h
        refine k_iald cx g4 g17 dL_areRows_51 ?_
        obtain ⟨q18, g19, h⟩ := bind_ok h
        refine k_callS cx iv_L_49 (w_L_length g19) (As := [.int (hpA σ a3 j16)]) rfl rfl ⟨Nat.le_of_ble_eq_true rfl, Nat.le_of_ble_eq_true rfl⟩ (by simp [cat_rf, cat_i, cat_j]) dL_areRows_52 ?_
        refine k_iadd cx dL_areRows_55 ?_
        refine k_istore cx [(10, .int (q14 + q18)), (9, .int (((hpA σ a3 j10) >>> (4 &&& 31)) &&& 15)), (8, .int ((hpA σ a3 j8) &&& 15)), (0, va_rf p1), (1, va_rf p2), (2, va_rf p3), (3, va_rf p4), (4, .int v4_12), (5, .int v5_12), (6, .int v6_12), (7, .int v7_12)] dL_areRows_56 (by decide) (by simp [cat_rf, cat_i, cat_j]) ?_
        refine k_aload_n cx 4 dL_areRows_58 rfl rfl ?_
        refine k_bipush cx 10 dL_areRows_59 (by decide) ?_
        refine k_iload cx 2 dL_areRows_61 rfl ?_
        refine k_imul cx dL_areRows_63 ?_
        refine k_bipush cx 6 dL_areRows_64 (by decide) ?_
        refine k_iadd cx dL_areRows_66 ?_
        obtain ⟨a20, g21, h⟩ := bind_ok h
        obtain ⟨j22, g23, h⟩ := bind_ok h
        refine k_iald cx g21 g23 dL_areRows_67 ?_
        refine k_iconst cx 1 dL_areRows_68 (by decide) ?_
        obtain ⟨x24, hxx24, h⟩ := bind_ok h
        have Kx24 : Og p l e s m args below meth c Γ 19 4 88 σ (some (.int ρ)) σ 86 [(0, va_rf p1), (1, va_rf p2), (2, va_rf p3), (3, va_rf p4), (4, .int v4_12), (5, .int v5_12), (6, .int v6_12), (7, .int v7_12), (8, .int ((hpA σ a3 j8) &&& 15)), (9, .int (((hpA σ a3 j10) >>> (4 &&& 31)) &&& 15)), (10, .int (q14 + q18))] [.int x24] σ := by
          refine k_istore cx [(11, .int x24), (0, va_rf p1), (1, va_rf p2), (2, va_rf p3), (3, va_rf p4), (4, .int v4_12), (5, .int v5_12), (6, .int v6_12), (7, .int v7_12), (8, .int ((hpA σ a3 j8) &&& 15)), (9, .int (((hpA σ a3 j10) >>> (4 &&& 31)) &&& 15)), (10, .int (q14 + q18))] dL_areRows_86 (by decide) (by simp [cat_rf, cat_i, cat_j]) ?_
          refine k_aload_n cx 1 dL_areRows_88 rfl rfl ?_
          refine k_iload cx 9 dL_areRows_89 rfl ?_
          refine k_bipush cx 6 dL_areRows_91 (by decide) ?_
          obtain ⟨a29, g30, h⟩ := bind_ok h
          obtain ⟨q31, g32, h⟩ := bind_ok h
          refine k_callV cx iv_L_57 (ci := 10) rfl (by decide) (w_X10_line (dn_some g30).2 g32) g30 (As := [.int ((hpA σ a3 j8) &&& 15), .int 6]) rfl rfl ⟨Nat.le_of_ble_eq_true rfl, Nat.le_of_ble_eq_true rfl⟩ (by simp [cat_rf, cat_i, cat_j]) dL_areRows_93 ?_
          refine k_istore cx [(12, .int q31), (11, .int x24), (0, va_rf p1), (1, va_rf p2), (2, va_rf p3), (3, va_rf p4), (4, .int v4_12), (5, .int v5_12), (6, .int v6_12), (7, .int v7_12), (8, .int ((hpA σ a3 j8) &&& 15)), (9, .int (((hpA σ a3 j10) >>> (4 &&& 31)) &&& 15)), (10, .int (q14 + q18))] dL_areRows_96 (by decide) (by simp [cat_rf, cat_i, cat_j]) ?_
          refine k_iload cx 11 dL_areRows_98 rfl ?_
          obtain ⟨x33, hxx33, h⟩ := bind_ok h
          have Kx33 : Og p l e s m args below meth c Γ 19 4 88 σ (some (.int ρ)) σ 121 [(0, va_rf p1), (1, va_rf p2), (2, va_rf p3), (3, va_rf p4), (4, .int v4_12), (5, .int v5_12), (6, .int v6_12), (7, .int v7_12), (8, .int ((hpA σ a3 j8) &&& 15)), (9, .int (((hpA σ a3 j10) >>> (4 &&& 31)) &&& 15)), (10, .int (q14 + q18))] [.int x33] σ := by
            refine k_istore cx [(13, .int x33), (0, va_rf p1), (1, va_rf p2), (2, va_rf p3), (3, va_rf p4), (4, .int v4_12), (5, .int v5_12), (6, .int v6_12), (7, .int v7_12), (8, .int ((hpA σ a3 j8) &&& 15)), (9, .int (((hpA σ a3 j10) >>> (4 &&& 31)) &&& 15)), (10, .int (q14 + q18))] dL_areRows_121 (by decide) (by simp [cat_rf, cat_i, cat_j]) ?_
            refine k_aload_n cx 1 dL_areRows_123 rfl rfl ?_
            refine k_iload cx 8 dL_areRows_124 rfl ?_
            refine k_iconst cx 0 dL_areRows_126 (by decide) ?_
            obtain ⟨q39, g40, h⟩ := bind_ok h
            refine k_callV cx iv_L_63 (ci := 10) rfl (by decide) (w_X10_row (dn_some g30).2 g40) g30 (As := [.int v7_12, .int 0]) rfl rfl ⟨Nat.le_of_ble_eq_true rfl, Nat.le_of_ble_eq_true rfl⟩ (by simp [cat_rf, cat_i, cat_j]) dL_areRows_127 ?_
            refine k_iload cx 9 dL_areRows_130 rfl ?_
            refine k_icmp_ne cx 227 dL_areRows_132 (by decide) (fun c41 => ?_) (fun c41 => ?_)
            · have h := ite_t h c41
              refine k_iconst cx 0 dL_areRows_227 (by decide) ?_
              have h := Option.some.inj h
              have h := sb_ret h Hx2
              exact k_zret cx hr hlk gz_0 (by rw [← h]) rfl dL_areRows_228
            · have h := ite_f h c41
              refine k_aload_n cx 1 dL_areRows_135 rfl rfl ?_
              refine k_iload cx 8 dL_areRows_136 rfl ?_
              refine k_iconst cx 1 dL_areRows_138 (by decide) ?_
              obtain ⟨q42, g43, h⟩ := bind_ok h
              refine k_callV cx iv_L_63 (ci := 10) rfl (by decide) (w_X10_row (dn_some g30).2 g43) g30 (As := [.int v7_12, .int 1]) rfl rfl ⟨Nat.le_of_ble_eq_true rfl, Nat.le_of_ble_eq_true rfl⟩ (by simp [cat_rf, cat_i, cat_j]) dL_areRows_139 ?_
              refine k_iload cx 10 dL_areRows_142 rfl ?_
              refine k_icmp_ne cx 227 dL_areRows_144 (by decide) (fun c44 => ?_) (fun c44 => ?_)
              · have h := ite_t h c44
                refine k_iconst cx 0 dL_areRows_227 (by decide) ?_
                have h := Option.some.inj h
                have h := sb_ret h Hx2
                exact k_zret cx hr hlk gz_0 (by rw [← h]) rfl dL_areRows_228
              · have h := ite_f h c44
                refine k_aload_n cx 1 dL_areRows_147 rfl rfl ?_
                refine k_iload cx 8 dL_areRows_148 rfl ?_
                refine k_iconst cx 4 dL_areRows_150 (by decide) ?_
                obtain ⟨q45, g46, h⟩ := bind_ok h
                refine k_callV cx iv_L_63 (ci := 10) rfl (by decide) (w_X10_row (dn_some g30).2 g46) g30 (As := [.int v7_12, .int 4]) rfl rfl ⟨Nat.le_of_ble_eq_true rfl, Nat.le_of_ble_eq_true rfl⟩ (by simp [cat_rf, cat_i, cat_j]) dL_areRows_151 ?_
                refine k_aload_n cx 4 dL_areRows_154 rfl rfl ?_
                refine k_iload cx 8 dL_areRows_155 rfl ?_
                obtain ⟨j47, g48, h⟩ := bind_ok h
                refine k_iald cx g4 g48 dL_areRows_157 ?_
                obtain ⟨q49, g50, h⟩ := bind_ok h
                refine k_callS cx iv_L_46 (w_L_first g50) (As := [.int (hpA σ a3 j47)]) rfl rfl ⟨Nat.le_of_ble_eq_true rfl, Nat.le_of_ble_eq_true rfl⟩ (by simp [cat_rf, cat_i, cat_j]) dL_areRows_158 ?_
                refine k_icmp_ne cx 227 dL_areRows_161 (by decide) (fun c51 => ?_) (fun c51 => ?_)
                · have h := ite_t h c51
                  refine k_iconst cx 0 dL_areRows_227 (by decide) ?_
                  have h := Option.some.inj h
                  have h := sb_ret h Hx2
                  exact k_zret cx hr hlk gz_0 (by rw [← h]) rfl dL_areRows_228
                · have h := ite_f h c51
                  refine k_aload_n cx 1 dL_areRows_164 rfl rfl ?_
                  refine k_iload cx 8 dL_areRows_165 rfl ?_
                  refine k_iconst cx 5 dL_areRows_167 (by decide) ?_
                  obtain ⟨q52, g53, h⟩ := bind_ok h
                  refine k_callV cx iv_L_63 (ci := 10) rfl (by decide) (w_X10_row (dn_some g30).2 g53) g30 (As := [.int v7_12, .int 5]) rfl rfl ⟨Nat.le_of_ble_eq_true rfl, Nat.le_of_ble_eq_true rfl⟩ (by simp [cat_rf, cat_i, cat_j]) dL_areRows_168 ?_
                  refine k_aload_n cx 4 dL_areRows_171 rfl rfl ?_
                  refine k_iload cx 8 dL_areRows_172 rfl ?_
                  obtain ⟨j54, g55, h⟩ := bind_ok h
                  refine k_iald cx g4 g55 dL_areRows_174 ?_
                  obtain ⟨q56, g57, h⟩ := bind_ok h
                  refine k_callS cx iv_L_49 (w_L_length g57) (As := [.int (hpA σ a3 j54)]) rfl rfl ⟨Nat.le_of_ble_eq_true rfl, Nat.le_of_ble_eq_true rfl⟩ (by simp [cat_rf, cat_i, cat_j]) dL_areRows_175 ?_
                  refine k_icmp_ne cx 227 dL_areRows_178 (by decide) (fun c58 => ?_) (fun c58 => ?_)
                  · have h := ite_t h c58
                    refine k_iconst cx 0 dL_areRows_227 (by decide) ?_
                    have h := Option.some.inj h
                    have h := sb_ret h Hx2
                    exact k_zret cx hr hlk gz_0 (by rw [← h]) rfl dL_areRows_228
                  · have h := ite_f h c58
                    refine k_aload_n cx 1 dL_areRows_181 rfl rfl ?_
                    refine k_iload cx 8 dL_areRows_182 rfl ?_
                    refine k_bipush cx 6 dL_areRows_184 (by decide) ?_
                    obtain ⟨q59, g60, h⟩ := bind_ok h
                    refine k_callV cx iv_L_63 (ci := 10) rfl (by decide) (w_X10_row (dn_some g30).2 g60) g30 (As := [.int v7_12, .int 6]) rfl rfl ⟨Nat.le_of_ble_eq_true rfl, Nat.le_of_ble_eq_true rfl⟩ (by simp [cat_rf, cat_i, cat_j]) dL_areRows_186 ?_
                    refine k_iload cx 0 dL_areRows_189 rfl ?_
                    refine k_icmp_ne cx 227 dL_areRows_191 (by decide) (fun c61 => ?_) (fun c61 => ?_)
                    · have h := ite_t h c61
                      refine k_iconst cx 0 dL_areRows_227 (by decide) ?_
                      have h := Option.some.inj h
                      have h := sb_ret h Hx2
                      exact k_zret cx hr hlk gz_0 (by rw [← h]) rfl dL_areRows_228
                    · have h := ite_f h c61
                      refine k_aload_n cx 1 dL_areRows_194 rfl rfl ?_
                      refine k_iload cx 8 dL_areRows_195 rfl ?_
                      refine k_bipush cx 7 dL_areRows_197 (by decide) ?_
                      obtain ⟨q62, g63, h⟩ := bind_ok h
                      refine k_callV cx iv_L_63 (ci := 10) rfl (by decide) (w_X10_row (dn_some g30).2 g63) g30 (As := [.int v7_12, .int 7]) rfl rfl ⟨Nat.le_of_ble_eq_true rfl, Nat.le_of_ble_eq_true rfl⟩ (by simp [cat_rf, cat_i, cat_j]) dL_areRows_199 ?_
                      refine k_aload_n cx 4 dL_areRows_202 rfl rfl ?_
                      refine k_iload cx 8 dL_areRows_203 rfl ?_
                      obtain ⟨j64, g65, h⟩ := bind_ok h
                      refine k_iald cx g4 g65 dL_areRows_205 ?_
                      refine k_bipush cx 24 dL_areRows_206 (by decide) ?_
                      refine k_ishr cx dL_areRows_208 ?_
                      refine k_iconst cx 1 dL_areRows_209 (by decide) ?_
                      refine k_iand cx dL_areRows_210 ?_
                      refine k_icmp_ne cx 227 dL_areRows_211 (by decide) (fun c66 => ?_) (fun c66 => ?_)
                      · have h := ite_t h c66
                        refine k_iconst cx 0 dL_areRows_227 (by decide) ?_
                        have h := Option.some.inj h
                        have h := sb_ret h Hx2
                        exact k_zret cx hr hlk gz_0 (by rw [← h]) rfl dL_areRows_228
                      · have h := ite_f h c66
                        refine k_aload_n cx 1 dL_areRows_214 rfl rfl ?_
                        refine k_iload cx 8 dL_areRows_215 rfl ?_
                        refine k_bipush cx 8 dL_areRows_217 (by decide) ?_
                        obtain ⟨q67, g68, h⟩ := bind_ok h
                        refine k_callV cx iv_L_63 (ci := 10) rfl (by decide) (w_X10_row (dn_some g30).2 g68) g30 (As := [.int v7_12, .int 8]) rfl rfl ⟨Nat.le_of_ble_eq_true rfl, Nat.le_of_ble_eq_true rfl⟩ (by simp [cat_rf, cat_i, cat_j]) dL_areRows_219 ?_
                        refine k_iload cx 11 dL_areRows_222 rfl ?_
                        refine k_icmp_eq cx 229 dL_areRows_224 (by decide) (fun c69 => ?_) (fun c69 => ?_)
                        · have h := ite_t h c69
                          refine k_aload_n cx 1 dL_areRows_229 rfl rfl ?_
                          refine k_iload cx 8 dL_areRows_230 rfl ?_
                          refine k_iconst cx 2 dL_areRows_232 (by decide) ?_
                          obtain ⟨q70, g71, h⟩ := bind_ok h
                          refine k_callV cx iv_L_63 (ci := 10) rfl (by decide) (w_X10_row (dn_some g30).2 g71) g30 (As := [.int v7_12, .int 2]) rfl rfl ⟨Nat.le_of_ble_eq_true rfl, Nat.le_of_ble_eq_true rfl⟩ (by simp [cat_rf, cat_i, cat_j]) dL_areRows_233 ?_
                          refine k_istore cx [(14, .int q70), (13, .int x33), (0, va_rf p1), (1, va_rf p2), (2, va_rf p3), (3, va_rf p4), (4, .int v4_12), (5, .int v5_12), (6, .int v6_12), (7, .int v7_12), (8, .int ((hpA σ a3 j8) &&& 15)), (9, .int (((hpA σ a3 j10) >>> (4 &&& 31)) &&& 15)), (10, .int (q14 + q18))] dL_areRows_236 (by decide) (by simp [cat_rf, cat_i, cat_j]) ?_
                          refine k_aload_n cx 2 dL_areRows_238 rfl rfl ?_
                          refine k_iload cx 9 dL_areRows_239 rfl ?_
                          refine k_iconst cx 3 dL_areRows_241 (by decide) ?_
                          obtain ⟨q72, g73, h⟩ := bind_ok h
                          refine k_callV cx iv_L_63 (ci := 10) rfl (by decide) (w_X10_row (dn_some g30).2 g73) g30 (As := [.int v7_12, .int 3]) rfl rfl ⟨Nat.le_of_ble_eq_true rfl, Nat.le_of_ble_eq_true rfl⟩ (by simp [cat_rf, cat_i, cat_j]) dL_areRows_242 ?_
                          refine k_istore cx [(15, .int q72), (14, .int q70), (13, .int x33), (0, va_rf p1), (1, va_rf p2), (2, va_rf p3), (3, va_rf p4), (4, .int v4_12), (5, .int v5_12), (6, .int v6_12), (7, .int v7_12), (8, .int ((hpA σ a3 j8) &&& 15)), (9, .int (((hpA σ a3 j10) >>> (4 &&& 31)) &&& 15)), (10, .int (q14 + q18))] dL_areRows_245 (by decide) (by simp [cat_rf, cat_i, cat_j]) ?_
                          refine k_aload_n cx 6 dL_areRows_247 rfl rfl ?_
                          refine k_iload cx 10 dL_areRows_248 rfl ?_
                          obtain ⟨j74, g75, h⟩ := bind_ok h
                          refine k_iald cx g4 g75 dL_areRows_250 ?_
                          refine k_bipush cx 25 dL_areRows_251 (by decide) ?_
                          refine k_ishr cx dL_areRows_253 ?_
                          refine k_bipush cx 127 dL_areRows_254 (by decide) ?_
                          refine k_iand cx dL_areRows_256 ?_
                          refine k_istore cx [(16, .int (((hpA σ a3 j74) >>> (25 &&& 31)) &&& 127)), (15, .int q72), (14, .int q70), (13, .int x33), (0, va_rf p1), (1, va_rf p2), (2, va_rf p3), (3, va_rf p4), (4, .int v4_12), (5, .int v5_12), (6, .int v6_12), (7, .int v7_12), (8, .int ((hpA σ a3 j8) &&& 15)), (9, .int (((hpA σ a3 j10) >>> (4 &&& 31)) &&& 15)), (10, .int (q14 + q18))] dL_areRows_257 (by decide) (by simp [cat_rf, cat_i, cat_j]) ?_
                          refine k_iconst cx 0 dL_areRows_259 (by decide) ?_
                          refine k_istore cx [(17, .int 0), (16, .int (((hpA σ a3 j74) >>> (25 &&& 31)) &&& 127)), (15, .int q72), (14, .int q70), (13, .int x33), (0, va_rf p1), (1, va_rf p2), (2, va_rf p3), (3, va_rf p4), (4, .int v4_12), (5, .int v5_12), (6, .int v6_12), (7, .int v7_12), (8, .int ((hpA σ a3 j8) &&& 15)), (9, .int (((hpA σ a3 j10) >>> (4 &&& 31)) &&& 15)), (10, .int (q14 + q18))] dL_areRows_260 (by decide) (by simp [cat_rf, cat_i, cat_j]) ?_
                          obtain ⟨x77, hxx77, Hx77⟩ := sb_ok h
                          have Kx77 : ∀ wx77, .inr wx77 = x77 → Og p l e s m args below meth c Γ 19 4 88 σ (some (.int ρ)) σ 346 [(0, va_rf p1), (1, va_rf p2), (2, va_rf p3), (3, va_rf p4), (4, .int v4_12), (5, .int v5_12), (6, .int v6_12), (7, .int v7_12), (9, .int (((hpA σ a3 j10) >>> (4 &&& 31)) &&& 15)), (10, .int (q14 + q18))] [] σ := by
                            intro wx77 hw
                            have h := sb_inr hw Hx77
                            refine k_iload cx 4 dL_areRows_346 rfl ?_
                            refine k_iload cx 8 dL_areRows_348 rfl ?_
                            obtain ⟨x105, hxx105, h⟩ := bind_ok h
                            have Kx105 : Og p l e s m args below meth c Γ 19 4 88 σ (some (.int ρ)) σ 358 [(0, va_rf p1), (1, va_rf p2), (2, va_rf p3), (3, va_rf p4), (5, .int v5_12), (6, .int v6_12), (7, .int v7_12), (10, .int (q14 + q18))] [.int x105, .int v4_12] σ := by
                              refine k_iadd cx dL_areRows_358 ?_
                              refine k_istore cx [(4, .int (v4_12 + x105)), (0, va_rf p1), (1, va_rf p2), (2, va_rf p3), (3, va_rf p4), (5, .int v5_12), (6, .int v6_12), (7, .int v7_12), (10, .int (q14 + q18))] dL_areRows_359 (by decide) (by simp [cat_rf, cat_i, cat_j]) ?_
                              refine k_iload cx 5 dL_areRows_361 rfl ?_
                              refine k_aload_n cx 4 dL_areRows_363 rfl rfl ?_
                              refine k_iload cx 7 dL_areRows_364 rfl ?_
                              obtain ⟨j107, g108, h⟩ := bind_ok h
                              refine k_iald cx g4 g108 dL_areRows_366 ?_
                              refine k_bipush cx 24 dL_areRows_367 (by decide) ?_
                              refine k_ishr cx dL_areRows_369 ?_
                              refine k_iconst cx 1 dL_areRows_370 (by decide) ?_
                              refine k_iand cx dL_areRows_371 ?_
                              refine k_iadd cx dL_areRows_372 ?_
                              refine k_istore cx [(5, .int (v5_12 + (((hpA σ a3 j107) >>> (24 &&& 31)) &&& 1))), (4, .int (v4_12 + x105)), (0, va_rf p1), (1, va_rf p2), (2, va_rf p3), (3, va_rf p4), (6, .int v6_12), (7, .int v7_12), (10, .int (q14 + q18))] dL_areRows_373 (by decide) (by simp [cat_rf, cat_i, cat_j]) ?_
                              refine k_iload cx 8 dL_areRows_375 rfl ?_
                              refine k_iload cx 6 dL_areRows_377 rfl ?_
                              obtain ⟨x109, hxx109, h⟩ := bind_ok h
                              have Kx109 : Og p l e s m args below meth c Γ 19 4 88 σ (some (.int ρ)) σ 389 [(0, va_rf p1), (1, va_rf p2), (2, va_rf p3), (3, va_rf p4), (4, .int (v4_12 + x105)), (5, .int (v5_12 + (((hpA σ a3 j107) >>> (24 &&& 31)) &&& 1))), (7, .int v7_12)] [.int x109] σ := by
                                refine k_istore cx [(6, .int x109), (0, va_rf p1), (1, va_rf p2), (2, va_rf p3), (3, va_rf p4), (4, .int (v4_12 + x105)), (5, .int (v5_12 + (((hpA σ a3 j107) >>> (24 &&& 31)) &&& 1))), (7, .int v7_12)] dL_areRows_389 (by decide) (by simp [cat_rf, cat_i, cat_j]) ?_
                                refine k_iinc cx 7 [(7, .int (v7_12 + 1)), (6, .int x109), (0, va_rf p1), (1, va_rf p2), (2, va_rf p3), (3, va_rf p4), (4, .int (v4_12 + x105)), (5, .int (v5_12 + (((hpA σ a3 j107) >>> (24 &&& 31)) &&& 1)))] (v7_12 + 1) dL_areRows_391 rfl rfl (by decide) (by simp [cat_rf, cat_i, cat_j]) ?_
                                refine k_goto cx 12 dL_areRows_394 (by decide) ?_
                                refine k_sub [2, 3, 4, 5, 6, 7, 1, 0] rfl ?_
                                exact ihx2 _ _ _ _ h
                              have h := hxx109
                              refine k_icmp_le cx 387 dL_areRows_379 (by decide) (fun c110 => ?_) (fun c110 => ?_)
                              · have h := ite_t h c110
                                refine k_iload cx 6 dL_areRows_387 rfl ?_
                                refine k_sub [2, 3, 4, 5, 1, 0, 7] rfl ?_
                                obtain rfl := Option.some.inj h
                                exact Kx109
                              · have h := ite_f h c110
                                refine k_iload cx 8 dL_areRows_382 rfl ?_
                                refine k_goto cx 389 dL_areRows_384 (by decide) ?_
                                refine k_sub [2, 3, 4, 5, 1, 0, 7] rfl ?_
                                obtain rfl := Option.some.inj h
                                exact Kx109
                            have h := hxx105
                            refine k_if_le cx 357 dL_areRows_350 (by decide) (fun c106 => ?_) (fun c106 => ?_)
                            · have h := ite_t h c106
                              refine k_iconst cx 0 dL_areRows_357 (by decide) ?_
                              refine k_sub [0, 1, 2, 3, 5, 6, 7, 9] rfl ?_
                              obtain rfl := Option.some.inj h
                              exact Kx105
                            · have h := ite_f h c106
                              refine k_iconst cx 1 dL_areRows_353 (by decide) ?_
                              refine k_goto cx 358 dL_areRows_354 (by decide) ?_
                              refine k_sub [0, 1, 2, 3, 5, 6, 7, 9] rfl ?_
                              obtain rfl := Option.some.inj h
                              exact Kx105
                          have KLx77 : ∀ (n : Nat) (v17_262 : Int32), LL_areRows_262 n σ p1 p2 p3 p4 v4_12 v5_12 v6_12 v7_12 ((hpA σ a3 j8) &&& 15) (((hpA σ a3 j10) >>> (4 &&& 31)) &&& 15) (q14 + q18) q70 q72 (((hpA σ a3 j74) >>> (25 &&& 31)) &&& 127) v17_262 = some x77 → Og p l e s m args below meth c Γ 19 4 88 σ (some (.int ρ)) σ 262 [(0, va_rf p1), (1, va_rf p2), (2, va_rf p3), (3, va_rf p4), (4, .int v4_12), (5, .int v5_12), (6, .int v6_12), (7, .int v7_12), (8, .int ((hpA σ a3 j8) &&& 15)), (9, .int (((hpA σ a3 j10) >>> (4 &&& 31)) &&& 15)), (10, .int (q14 + q18)), (14, .int q70), (15, .int q72), (16, .int (((hpA σ a3 j74) >>> (25 &&& 31)) &&& 127)), (17, .int v17_262)] [] σ := by
                            intro n
                            induction n with
                            | zero => intro _ h; cases (show (none : Option _) = some x77 from h)
                            | succ n ihx77 =>
                              intro v17_262 h
                              rw [LL_areRows_262] at h
                              refine k_iload cx 14 dL_areRows_262 rfl ?_
                              refine k_aload_n cx 2 dL_areRows_264 rfl rfl ?_
                              refine k_iconst cx 0 dL_areRows_265 (by decide) ?_
                              obtain ⟨a78, g79, h⟩ := bind_ok h
                              obtain ⟨j80, g81, h⟩ := bind_ok h
                              refine k_iald cx g79 g81 dL_areRows_266 ?_
                              refine k_icmp_ge cx 346 dL_areRows_267 (by decide) (fun c82 => ?_) (fun c82 => ?_)
                              · have h := ite_t h c82
                                refine k_sub [0, 1, 2, 3, 4, 5, 6, 7, 9, 10] rfl ?_
                                exact Kx77 _ (Option.some.inj h)
                              · have h := ite_f h c82
                                refine k_iload cx 14 dL_areRows_270 rfl ?_
                                refine k_aload_n cx 3 dL_areRows_272 rfl rfl ?_
                                refine k_iload cx 7 dL_areRows_273 rfl ?_
                                obtain ⟨a83, g84, h⟩ := bind_ok h
                                obtain ⟨j85, g86, h⟩ := bind_ok h
                                refine k_iald cx g84 g86 dL_areRows_275 ?_
                                obtain ⟨q87, g88, h⟩ := bind_ok h
                                refine k_callS cx iv_L_46 (w_L_first g88) (As := [.int (hpA σ a83 j85)]) rfl rfl ⟨Nat.le_of_ble_eq_true rfl, Nat.le_of_ble_eq_true rfl⟩ (by simp [cat_rf, cat_i, cat_j]) dL_areRows_276 ?_
                                obtain ⟨x89, hxx89, h⟩ := bind_ok h
                                have Kx89 : Og p l e s m args below meth c Γ 19 4 88 σ (some (.int ρ)) σ 294 [(0, va_rf p1), (1, va_rf p2), (2, va_rf p3), (3, va_rf p4), (4, .int v4_12), (5, .int v5_12), (6, .int v6_12), (7, .int v7_12), (8, .int ((hpA σ a3 j8) &&& 15)), (9, .int (((hpA σ a3 j10) >>> (4 &&& 31)) &&& 15)), (10, .int (q14 + q18)), (14, .int q70), (15, .int q72), (16, .int (((hpA σ a3 j74) >>> (25 &&& 31)) &&& 127)), (17, .int v17_262)] [.int x89] σ := by
                                  refine k_istore cx [(18, .int x89), (0, va_rf p1), (1, va_rf p2), (2, va_rf p3), (3, va_rf p4), (4, .int v4_12), (5, .int v5_12), (6, .int v6_12), (7, .int v7_12), (8, .int ((hpA σ a3 j8) &&& 15)), (9, .int (((hpA σ a3 j10) >>> (4 &&& 31)) &&& 15)), (10, .int (q14 + q18)), (14, .int q70), (15, .int q72), (16, .int (((hpA σ a3 j74) >>> (25 &&& 31)) &&& 127)), (17, .int v17_262)] dL_areRows_294 (by decide) (by simp [cat_rf, cat_i, cat_j]) ?_
                                  refine k_aload_n cx 1 dL_areRows_296 rfl rfl ?_
                                  refine k_iload cx 12 dL_areRows_297 rfl ?_
                                  refine k_iload cx 13 dL_areRows_299 rfl ?_
                                  refine k_iload cx 15 dL_areRows_301 rfl ?_
                                  obtain ⟨a92, g93, h⟩ := bind_ok h
                                  obtain ⟨q94, g95, h⟩ := bind_ok h
                                  refine k_callV cx iv_L_66 (ci := 10) rfl (by decide) (w_X10_at (dn_some g93).2 g95) g93 (As := [.int q70, .int q72, .int v17_262]) rfl rfl ⟨Nat.le_of_ble_eq_true rfl, Nat.le_of_ble_eq_true rfl⟩ (by simp [cat_rf, cat_i, cat_j]) dL_areRows_303 ?_
                                  refine k_iload cx 0 dL_areRows_306 rfl ?_
                                  obtain ⟨x96, hxx96, h⟩ := bind_ok h
                                  have Kx96 : Og p l e s m args below meth c Γ 19 4 88 σ (some (.int ρ)) σ 335 [(0, va_rf p1), (1, va_rf p2), (2, va_rf p3), (3, va_rf p4), (4, .int v4_12), (5, .int v5_12), (6, .int v6_12), (7, .int v7_12), (8, .int ((hpA σ a3 j8) &&& 15)), (9, .int (((hpA σ a3 j10) >>> (4 &&& 31)) &&& 15)), (10, .int (q14 + q18)), (14, .int q70), (15, .int q72), (16, .int (((hpA σ a3 j74) >>> (25 &&& 31)) &&& 127)), (17, .int v17_262)] [.int x96, .int q94] σ := by
                                    refine k_icmp_eq cx 340 dL_areRows_335 (by decide) (fun c104 => ?_) (fun c104 => ?_)
                                    · have h := ite_t h c104
                                      refine k_iinc cx 14 [(17, .int (v17_262 + 1)), (0, va_rf p1), (1, va_rf p2), (2, va_rf p3), (3, va_rf p4), (4, .int v4_12), (5, .int v5_12), (6, .int v6_12), (7, .int v7_12), (8, .int ((hpA σ a3 j8) &&& 15)), (9, .int (((hpA σ a3 j10) >>> (4 &&& 31)) &&& 15)), (10, .int (q14 + q18)), (14, .int q70), (15, .int q72), (16, .int (((hpA σ a3 j74) >>> (25 &&& 31)) &&& 127))] (v17_262 + 1) dL_areRows_340 rfl rfl (by decide) (by simp [cat_rf, cat_i, cat_j]) ?_
                                      refine k_goto cx 262 dL_areRows_343 (by decide) ?_
                                      refine k_sub [1, 2, 3, 4, 5, 6, 7, 8, 9, 10, 11, 12, 13, 14, 0] rfl ?_
                                      exact ihx77 _ h
                                    · have h := ite_f h c104
                                      refine k_iconst cx 0 dL_areRows_338 (by decide) ?_
                                      have h := Option.some.inj h
                                      have h := sb_ret h Hx77
                                      have h := sb_ret h Hx2
                                      exact k_zret cx hr hlk gz_0 (by rw [← h]) rfl dL_areRows_339
                                  have h := hxx96
                                  refine k_if_eq cx 333 dL_areRows_308 (by decide) (fun c97 => ?_) (fun c97 => ?_)
                                  · have h := ite_t h c97
                                    refine k_bipush cx 32 dL_areRows_333 (by decide) ?_
                                    refine k_sub [1, 2, 3, 4, 5, 6, 7, 8, 9, 10, 11, 12, 13, 14, 15] rfl ?_
                                    obtain rfl := Option.some.inj h
                                    exact Kx96
                                  · have h := ite_f h c97
                                    refine k_aload_n cx 1 dL_areRows_311 rfl rfl ?_
                                    refine k_iload cx 9 dL_areRows_312 rfl ?_
                                    refine k_iload cx 14 dL_areRows_314 rfl ?_
                                    refine k_iload cx 15 dL_areRows_316 rfl ?_
                                    refine k_iadd cx dL_areRows_318 ?_
                                    refine k_aload_n cx 4 dL_areRows_319 rfl rfl ?_
                                    refine k_iload cx 8 dL_areRows_320 rfl ?_
                                    obtain ⟨j98, g99, h⟩ := bind_ok h
                                    refine k_iald cx g84 g99 dL_areRows_322 ?_
                                    obtain ⟨q100, g101, h⟩ := bind_ok h
                                    refine k_callS cx iv_L_46 (w_L_first g101) (As := [.int (hpA σ a83 j98)]) rfl rfl ⟨Nat.le_of_ble_eq_true rfl, Nat.le_of_ble_eq_true rfl⟩ (by simp [cat_rf, cat_i, cat_j]) dL_areRows_323 ?_
                                    refine k_isub cx dL_areRows_326 ?_
                                    obtain ⟨q102, g103, h⟩ := bind_ok h
                                    refine k_callV cx iv_L_60 (ci := 10) rfl (by decide) (w_X10_letter (dn_some g93).2 g103) g93 (As := [.int ((hpA σ a3 j8) &&& 15), .int (((((hpA σ a3 j74) >>> (25 &&& 31)) &&& 127) + v17_262) - q100)]) rfl rfl ⟨Nat.le_of_ble_eq_true rfl, Nat.le_of_ble_eq_true rfl⟩ (by simp [cat_rf, cat_i, cat_j]) dL_areRows_327 ?_
                                    refine k_goto cx 335 dL_areRows_330 (by decide) ?_
                                    refine k_sub [1, 2, 3, 4, 5, 6, 7, 8, 9, 10, 11, 12, 13, 14, 15] rfl ?_
                                    obtain rfl := Option.some.inj h
                                    exact Kx96
                                have h := hxx89
                                refine k_icmp_lt cx 293 dL_areRows_279 (by decide) (fun c90 => ?_) (fun c90 => ?_)
                                · have h := ite_t h c90
                                  refine k_iconst cx 0 dL_areRows_293 (by decide) ?_
                                  obtain rfl := Option.some.inj h
                                  exact Kx89
                                · have h := ite_f h c90
                                  refine k_iload cx 14 dL_areRows_282 rfl ?_
                                  refine k_iload cx 10 dL_areRows_284 rfl ?_
                                  refine k_icmp_ge cx 293 dL_areRows_286 (by decide) (fun c91 => ?_) (fun c91 => ?_)
                                  · have h := ite_t h c91
                                    refine k_iconst cx 0 dL_areRows_293 (by decide) ?_
                                    obtain rfl := Option.some.inj h
                                    exact Kx89
                                  · have h := ite_f h c91
                                    refine k_iconst cx 1 dL_areRows_289 (by decide) ?_
                                    refine k_goto cx 294 dL_areRows_290 (by decide) ?_
                                    obtain rfl := Option.some.inj h
                                    exact Kx89
                          refine k_sub [5, 6, 7, 8, 9, 10, 11, 12, 13, 14, 15, 3, 2, 1, 0] rfl ?_
                          exact KLx77 FU _ hxx77
                        · have h := ite_f h c69
                          refine k_iconst cx 0 dL_areRows_227 (by decide) ?_
                          have h := Option.some.inj h
                          have h := sb_ret h Hx2
                          exact k_zret cx hr hlk gz_0 (by rw [← h]) rfl dL_areRows_228
          have h := hxx33
          refine k_if_ne cx 120 dL_areRows_100 (by decide) (fun c34 => ?_) (fun c34 => ?_)
          · have h := ite_t h c34
            refine k_iconst cx 0 dL_areRows_120 (by decide) ?_
            refine k_sub [2, 3, 4, 5, 6, 7, 8, 9, 10, 11, 12] rfl ?_
            obtain rfl := Option.some.inj h
            exact Kx33
          · have h := ite_f h c34
            refine k_iload cx 1 dL_areRows_103 rfl ?_
            refine k_if_ne cx 120 dL_areRows_105 (by decide) (fun c35 => ?_) (fun c35 => ?_)
            · have h := ite_t h c35
              refine k_iconst cx 0 dL_areRows_120 (by decide) ?_
              refine k_sub [2, 3, 4, 5, 6, 7, 8, 9, 10, 11, 12] rfl ?_
              obtain rfl := Option.some.inj h
              exact Kx33
            · have h := ite_f h c35
              refine k_iload cx 0 dL_areRows_108 rfl ?_
              refine k_iconst cx 5 dL_areRows_110 (by decide) ?_
              obtain ⟨w36, g37, h⟩ := bind_ok h
              refine k_irem cx dL_areRows_111 g37 ?_
              refine k_if_ne cx 120 dL_areRows_112 (by decide) (fun c38 => ?_) (fun c38 => ?_)
              · have h := ite_t h c38
                refine k_iconst cx 0 dL_areRows_120 (by decide) ?_
                refine k_sub [2, 3, 4, 5, 6, 7, 8, 9, 10, 11, 12] rfl ?_
                obtain rfl := Option.some.inj h
                exact Kx33
              · have h := ite_f h c38
                refine k_iload cx 0 dL_areRows_115 rfl ?_
                refine k_goto cx 121 dL_areRows_117 (by decide) ?_
                refine k_sub [2, 3, 4, 5, 6, 7, 8, 9, 10, 11, 12] rfl ?_
                obtain rfl := Option.some.inj h
                exact Kx33
        have h := hxx24
        refine k_icmp_ne cx 85 dL_areRows_69 (by decide) (fun c25 => ?_) (fun c25 => ?_)
        · have h := ite_t h c25
          refine k_iconst cx 0 dL_areRows_85 (by decide) ?_
          refine k_sub [3, 4, 5, 6, 7, 8, 9, 10, 2, 1, 0] rfl ?_
          obtain rfl := Option.some.inj h
          exact Kx24
        · have h := ite_f h c25
          refine k_aload_n cx 4 dL_areRows_72 rfl rfl ?_
          refine k_iload cx 2 dL_areRows_73 rfl ?_
          obtain ⟨q26, g27, h⟩ := bind_ok h
          refine k_callS cx iv_L_42 (w_L_isFirst g27) (As := [va_rf p2, .int ((hpA σ a3 j8) &&& 15)]) rfl rfl ⟨Nat.le_of_ble_eq_true rfl, Nat.le_of_ble_eq_true rfl⟩ (by simp [cat_rf, cat_i, cat_j]) dL_areRows_75 ?_
          refine k_if_ne cx 85 dL_areRows_78 (by decide) (fun c28 => ?_) (fun c28 => ?_)
          · have h := ite_t h c28
            refine k_iconst cx 0 dL_areRows_85 (by decide) ?_
            refine k_sub [3, 4, 5, 6, 7, 8, 9, 10, 2, 1, 0] rfl ?_
            obtain rfl := Option.some.inj h
            exact Kx24
          · have h := ite_f h c28
            refine k_iconst cx 1 dL_areRows_81 (by decide) ?_
            refine k_goto cx 86 dL_areRows_82 (by decide) ?_
            refine k_sub [3, 4, 5, 6, 7, 8, 9, 10, 2, 1, 0] rfl ?_
            obtain rfl := Option.some.inj h
            exact Kx24
  refine k_sub [4, 5, 6, 7, 3, 2, 1, 0] rfl ?_
  exact KLx2 FU _ _ _ _ hxx2

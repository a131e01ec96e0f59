set_option maxRecDepth 100000 in
set_option maxHeartbeats 4000000 in
theorem w_X10_element {Γ : GE} {σ : St} {p1 : Option Nat} {p2 : Int32} {ρ : Int32} (h : f_X10_element σ p1 p2 = some ρ) : Ct Γ yX10_element cX10_element 2 (some .int) 0 0 [va_rf p1, .int p2] σ (some (.int ρ)) σ := by
  refine ct_intro (own := RX10) (L0 := [(0, va_rf p1), (1, .int p2)]) (by decide +kernel) rfl (by simp [lg_sl, cat_rf, cat_i, cat_j]) (by simp [lv_args, cat_rf, cat_i, cat_j]) ?_
  intro p l e s m args below meth c hr hlk hin cx
  unfold f_X10_element at h
  refine k_aload_n cx 0 dX10_element_0 rfl rfl ?_
  refine k_ifnull cx 14 dX10_element_1 (by decide) (fun c1 => ?_) (fun a8 c1 => ?_)
  · have h := ite_t h c1
    refine k_iconst cx 0 dX10_element_14 (by decide) ?_
    refine k_goto cx 21 dX10_element_15 (by decide) ?_
    have h := Option.some.inj h
    exact k_iret cx hr hlk (by rw [← h]) rfl dX10_element_21
  · have h := ite_f h (ne_nn c1)
    refine k_iload_n cx 1 dX10_element_4 rfl rfl ?_
    refine k_if_lt cx 14 dX10_element_5 (by decide) (fun c2 => ?_) (fun c2 => ?_)
    · have h := ite_t h c2
      refine k_iconst cx 0 dX10_element_14 (by decide) ?_
      refine k_goto cx 21 dX10_element_15 (by decide) ?_
      have h := Option.some.inj h
      exact k_iret cx hr hlk (by rw [← h]) rfl dX10_element_21
    · have h := ite_f h c2
      refine k_iload_n cx 1 dX10_element_8 rfl rfl ?_
      refine k_aload_n cx 0 dX10_element_9 rfl rfl ?_
      obtain ⟨a3, g4, h⟩ := bind_ok h
      refine k_alenA cx g4 dX10_element_10 ?_
      refine k_icmp_lt cx 18 dX10_element_11 (by decide) (fun c5 => ?_) (fun c5 => ?_)
      · have h := ite_t h c5
        refine k_aload_n cx 0 dX10_element_18 rfl rfl ?_
        refine k_iload_n cx 1 dX10_element_19 rfl rfl ?_
        obtain ⟨j6, g7, h⟩ := bind_ok h
        refine k_iald cx g4 g7 dX10_element_20 ?_
        have h := Option.some.inj h
        exact k_iret cx hr hlk (by rw [← h]) rfl dX10_element_21
      · have h := ite_f h c5
        refine k_iconst cx 0 dX10_element_14 (by decide) ?_
        refine k_goto cx 21 dX10_element_15 (by decide) ?_
        have h := Option.some.inj h
        exact k_iret cx hr hlk (by rw [← h]) rfl dX10_element_21
set_option maxRecDepth 100000 in
set_option maxHeartbeats 4000000 in
theorem w_X5_init {Γ : GE} {σ : St} {t : Nat} {ρ : St} (hk : hpK σ t = 5) (h : f_X5_init σ t = some ρ) : Ct Γ yX5_init cX5_init 2 none 1 21 [va_rf (some t)] σ none ρ := by
  refine ct_intro (own := RX5) (L0 := [(0, va_rf (some t))]) (by decide +kernel) rfl (by simp [lg_sl, cat_rf, cat_i, cat_j]) (by simp [lv_args, cat_rf, cat_i, cat_j]) ?_
  intro p l e s m args below meth c hr hlk hin cx
  have hk0 := dn_eq hk
  unfold f_X5_init at h
  refine k_aload_n cx 0 dX5_init_0 rfl rfl ?_
  refine k_objInit cx oi_X5_3 oi_i oi_c ⟨Nat.le_of_ble_eq_true rfl, Nat.le_of_ble_eq_true rfl⟩ (by simp [cat_rf, cat_i, cat_j]) dX5_init_1 ?_
  refine k_aload_n cx 0 dX5_init_4 rfl rfl ?_
  refine k_bipush cx 24 dX5_init_5 (by decide) ?_
  obtain ⟨σ1, g2, h⟩ := bind_ok h
  refine k_anew cx (k := 14) (by decide) rfl cl_X5_9 g2 dX5_init_7 ?_
  obtain ⟨a3, g4, h⟩ := bind_ok h
  refine q_putRF cx pl_X5_11 hin g4 dX5_init_10 ?_
  refine k_aload_n cx 0 dX5_init_13 rfl rfl ?_
  refine k_iconst cx 5 dX5_init_14 (by decide) ?_
  obtain ⟨σ5, g6, h⟩ := bind_ok h
  refine k_newarr cx (k := 13) (by decide) g6 ac_int dX5_init_15 ?_
  obtain ⟨a7, g8, h⟩ := bind_ok h
  refine q_putRF cx pl_X5_17 hin g8 dX5_init_17 ?_
  refine k_aload_n cx 0 dX5_init_20 rfl rfl ?_
  refine k_iconst cx 0 dX5_init_21 (by decide) ?_
  refine q_putI cx pl_X5_21 g8 dX5_init_22 ?_
  refine k_iconst cx 0 dX5_init_25 (by decide) ?_
  refine k_istore_n cx (i := 1) [(1, .int 0), (0, va_rf (some t))] dX5_init_26 rfl (by decide) (by simp [cat_rf, cat_i, cat_j]) ?_
  obtain ⟨x10, hxx10, h⟩ := bind_ok h
  have Kx10 : Og p l e s m args below meth c Γ 2 1 21 σ none ρ 55 [] [] x10 := by
    have h := Option.some.inj h
    exact k_vret cx hr hlk rfl (by rw [← h]) dX5_init_55
  have KLx10 : ∀ (n : Nat) (v1_27 : Int32) (τ27 : St), LX5_init_27 n t v1_27 τ27 = some x10 → Og p l e s m args below meth c Γ 2 1 21 σ none ρ 27 [(0, va_rf (some t)), (1, .int v1_27)] [] τ27 := by
    intro n
    induction n with
    | zero => intro _ _ h; cases (show (none : Option _) = some x10 from h)
    | succ n ihx10 =>
      intro v1_27 τ27 h
      rw [LX5_init_27] at h
      refine k_iload_n cx 1 dX5_init_27 rfl rfl ?_
      refine k_aload_n cx 0 dX5_init_28 rfl rfl ?_
      obtain ⟨a11, g12, h⟩ := bind_ok h
      refine q_getR cx fl_X5_17 g12 dX5_init_29 ?_
      obtain ⟨a13, g14, h⟩ := bind_ok h
      refine k_alenA cx g14 dX5_init_32 ?_
      refine k_icmp_ge cx 55 dX5_init_33 (by decide) (fun c15 => ?_) (fun c15 => ?_)
      · have h := ite_t h c15
        refine k_sub [] rfl ?_
        obtain rfl := Option.some.inj h
        exact Kx10
      · have h := ite_f h c15
        refine k_aload_n cx 0 dX5_init_36 rfl rfl ?_
        refine q_getR cx fl_X5_17 g12 dX5_init_37 ?_
        refine k_iload_n cx 1 dX5_init_40 rfl rfl ?_
        refine k_getsN cx rfl dX5_init_41 ?_
        refine k_iload_n cx 1 dX5_init_44 rfl rfl ?_
        obtain ⟨q16, g17, h⟩ := bind_ok h
        refine k_callSN cx iv_X5_28 (w_X10_element g17) (As := [va_rf (some (hpG τ27 0)), .int v1_27]) rfl rfl ⟨Nat.le_of_ble_eq_true rfl, Nat.le_of_ble_eq_true rfl⟩ (by simp [cat_rf, cat_i, cat_j]) dX5_init_45 ?_
        obtain ⟨a18, g19, h⟩ := bind_ok h
        obtain ⟨j20, g21, h⟩ := bind_ok h
        refine k_iast cx g19 g21 dX5_init_48 ?_
        refine k_iinc cx 1 [(1, .int (v1_27 + 1)), (0, va_rf (some t))] (v1_27 + 1) dX5_init_49 rfl rfl (by decide) (by simp [cat_rf, cat_i, cat_j]) ?_
        refine k_goto cx 27 dX5_init_52 (by decide) ?_
        refine k_sub [1, 0] rfl ?_
        exact ihx10 _ _ h
  refine k_sub [1, 0] rfl ?_
  exact KLx10 FU _ _ hxx10
set_option maxRecDepth 100000 in
set_option maxHeartbeats 4000000 in
theorem w_X0_init {Γ : GE} {σ : St} {t : Nat} {ρ : St} (hk : hpK σ t = 0) (h : f_X0_init σ t = some ρ) : Ct Γ yX0_init cX0_init 2 none 2 42 [va_rf (some t)] σ none ρ := by
  refine ct_intro (own := RX0) (L0 := [(0, va_rf (some t))]) (by decide +kernel) rfl (by simp [lg_sl, cat_rf, cat_i, cat_j]) (by simp [lv_args, cat_rf, cat_i, cat_j]) ?_
  intro p l e s m args below meth c hr hlk hin cx
  have hk0 := dn_eq hk
  unfold f_X0_init at h
  refine k_aload_n cx 0 dX0_init_0 rfl rfl ?_
  refine k_objInit cx oi_X0_3 oi_i oi_c ⟨Nat.le_of_ble_eq_true rfl, Nat.le_of_ble_eq_true rfl⟩ (by simp [cat_rf, cat_i, cat_j]) dX0_init_1 ?_
  refine k_aload_n cx 0 dX0_init_4 rfl rfl ?_
  refine k_bipush cx 8 dX0_init_5 (by decide) ?_
  obtain ⟨σ1, g2, h⟩ := bind_ok h
  refine k_anew cx (k := 17) (by decide) rfl cl_X0_9 g2 dX0_init_7 ?_
  obtain ⟨a3, g4, h⟩ := bind_ok h
  refine q_putRF cx pl_X0_11 hin g4 dX0_init_10 ?_
  refine k_aload_n cx 0 dX0_init_13 rfl rfl ?_
  refine k_iconst cx 0 dX0_init_14 (by decide) ?_
  refine q_putI cx pl_X0_17 g4 dX0_init_15 ?_
  refine k_iconst cx 0 dX0_init_18 (by decide) ?_
  refine k_istore_n cx (i := 1) [(1, .int 0), (0, va_rf (some t))] dX0_init_19 rfl (by decide) (by simp [cat_rf, cat_i, cat_j]) ?_
  obtain ⟨x6, hxx6, h⟩ := bind_ok h
  have Kx6 : Og p l e s m args below meth c Γ 2 2 42 σ none ρ 48 [] [] x6 := by
    have h := Option.some.inj h
    exact k_vret cx hr hlk rfl (by rw [← h]) dX0_init_48
  have KLx6 : ∀ (n : Nat) (v1_20 : Int32) (τ20 : St), LX0_init_20 n t v1_20 τ20 = some x6 → Og p l e s m args below meth c Γ 2 2 42 σ none ρ 20 [(0, va_rf (some t)), (1, .int v1_20)] [] τ20 := by
    intro n
    induction n with
    | zero => intro _ _ h; cases (show (none : Option _) = some x6 from h)
    | succ n ihx6 =>
      intro v1_20 τ20 h
      rw [LX0_init_20] at h
      refine k_iload_n cx 1 dX0_init_20 rfl rfl ?_
      refine k_aload_n cx 0 dX0_init_21 rfl rfl ?_
      obtain ⟨a7, g8, h⟩ := bind_ok h
      refine q_getR cx fl_X0_11 g8 dX0_init_22 ?_
      obtain ⟨a9, g10, h⟩ := bind_ok h
      refine k_alen cx (by decide) g10 dX0_init_25 ?_
      refine k_icmp_ge cx 48 dX0_init_26 (by decide) (fun c11 => ?_) (fun c11 => ?_)
      · have h := ite_t h c11
        refine k_sub [] rfl ?_
        obtain rfl := Option.some.inj h
        exact Kx6
      · have h := ite_f h c11
        refine k_aload_n cx 0 dX0_init_29 rfl rfl ?_
        refine q_getR cx fl_X0_11 g8 dX0_init_30 ?_
        refine k_iload_n cx 1 dX0_init_33 rfl rfl ?_
        obtain ⟨σ12, g13, h⟩ := bind_ok h
        refine k_new cx nw_X0_9 g13 dX0_init_34 ?_
        refine k_dup cx (by simp [cat_rf, cat_i, cat_j]) dX0_init_37 ?_
        obtain ⟨a14, g15, h⟩ := bind_ok h
        obtain ⟨q16, g17, h⟩ := bind_ok h
        refine k_callI cx iv_X0_21 (w_X5_init (dn_some g15).2 g17) (dn_some g15).1 (As := []) rfl rfl ⟨Nat.le_of_ble_eq_true rfl, Nat.le_of_ble_eq_true rfl⟩ (by simp [cat_rf, cat_i, cat_j]) dX0_init_38 ?_
        obtain ⟨a18, g19, h⟩ := bind_ok h
        obtain ⟨j20, g21, h⟩ := bind_ok h
        obtain ⟨w22, g23, h⟩ := bind_ok h
        refine k_aast cx (by decide) g19 g21 g23 dX0_init_41 ?_
        refine k_iinc cx 1 [(1, .int (v1_20 + 1)), (0, va_rf (some t))] (v1_20 + 1) dX0_init_42 rfl rfl (by decide) (by simp [cat_rf, cat_i, cat_j]) ?_
        refine k_goto cx 20 dX0_init_45 (by decide) ?_
        refine k_sub [1, 0] rfl ?_
        exact ihx6 _ _ h
  refine k_sub [1, 0] rfl ?_
  exact KLx6 FU _ _ hxx6
set_option maxRecDepth 100000 in
set_option maxHeartbeats 4000000 in
theorem w_X0_stateAt {Γ : GE} {σ : St} {t : Nat} {p1 : Int32} {ρ : Option Nat} (hk : hpK σ t = 0) (h : f_X0_stateAt σ t p1 = some ρ) : Ct Γ yX0_stateAt cX0_stateAt 2 (some (.object "PoemPages$Poem")) 0 0 [va_rf (some t), .int p1] σ (some (va_rf ρ)) σ := by
  refine ct_intro (own := RX0) (L0 := [(0, va_rf (some t)), (1, .int p1)]) (by decide +kernel) rfl (by simp [lg_sl, cat_rf, cat_i, cat_j]) (by simp [lv_args, cat_rf, cat_i, cat_j]) ?_
  intro p l e s m args below meth c hr hlk hin cx
  have hk0 := dn_eq hk
  unfold f_X0_stateAt at h
  refine k_iload_n cx 1 dX0_stateAt_0 rfl rfl ?_
  refine k_if_lt cx 13 dX0_stateAt_1 (by decide) (fun c1 => ?_) (fun c1 => ?_)
  · have h := ite_t h c1
    refine k_null cx dX0_stateAt_13 ?_
    refine k_goto cx 23 dX0_stateAt_14 (by decide) ?_
    have h := Option.some.inj h
    exact k_aret cx hr hlk (by rw [← h]) rfl dX0_stateAt_23
  · have h := ite_f h c1
    refine k_iload_n cx 1 dX0_stateAt_4 rfl rfl ?_
    refine k_aload_n cx 0 dX0_stateAt_5 rfl rfl ?_
    refine q_getR cx fl_X0_11 hk0 dX0_stateAt_6 ?_
    obtain ⟨a2, g3, h⟩ := bind_ok h
    refine k_alen cx (by decide) g3 dX0_stateAt_9 ?_
    refine k_icmp_lt cx 17 dX0_stateAt_10 (by decide) (fun c4 => ?_) (fun c4 => ?_)
    · have h := ite_t h c4
      refine k_aload_n cx 0 dX0_stateAt_17 rfl rfl ?_
      refine q_getR cx fl_X0_11 hk0 dX0_stateAt_18 ?_
      refine k_iload_n cx 1 dX0_stateAt_21 rfl rfl ?_
      obtain ⟨j5, g6, h⟩ := bind_ok h
      refine k_aald cx (by decide) g3 g6 dX0_stateAt_22 ?_
      have h := Option.some.inj h
      exact k_aret cx hr hlk (by rw [← h]) rfl dX0_stateAt_23
    · have h := ite_f h c4
      refine k_null cx dX0_stateAt_13 ?_
      refine k_goto cx 23 dX0_stateAt_14 (by decide) ?_
      have h := Option.some.inj h
      exact k_aret cx hr hlk (by rw [← h]) rfl dX0_stateAt_23
set_option maxRecDepth 100000 in
set_option maxHeartbeats 4000000 in
theorem w_X0_dropOldest {Γ : GE} {σ : St} {t : Nat} {ρ : St} (hk : hpK σ t = 0) (h : f_X0_dropOldest σ t = some ρ) : Ct Γ yX0_dropOldest cX0_dropOldest 3 none 1 21 [va_rf (some t)] σ none ρ := by
  refine ct_intro (own := RX0) (L0 := [(0, va_rf (some t))]) (by decide +kernel) rfl (by simp [lg_sl, cat_rf, cat_i, cat_j]) (by simp [lv_args, cat_rf, cat_i, cat_j]) ?_
  intro p l e s m args below meth c hr hlk hin cx
  have hk0 := dn_eq hk
  unfold f_X0_dropOldest at h
  refine k_aload_n cx 0 dX0_dropOldest_0 rfl rfl ?_
  refine k_iconst cx 0 dX0_dropOldest_1 (by decide) ?_
  obtain ⟨q1, g2, h⟩ := bind_ok h
  refine k_callV cx iv_X0_25 (ci := 0) rfl (by decide) (w_X0_stateAt (dn_some hk0).2 g2) hk0 (As := [.int 0]) rfl rfl ⟨Nat.le_of_ble_eq_true rfl, Nat.le_of_ble_eq_true rfl⟩ (by simp [cat_rf, cat_i, cat_j]) dX0_dropOldest_2 ?_
  refine k_astore_n cx (i := 1) [(1, va_rf q1), (0, va_rf (some t))] dX0_dropOldest_5 rfl (by decide) (by simp [cat_rf, cat_i, cat_j]) ?_
  refine k_iconst cx 1 dX0_dropOldest_6 (by decide) ?_
  refine k_istore_n cx (i := 2) [(2, .int 1), (1, va_rf q1), (0, va_rf (some t))] dX0_dropOldest_7 rfl (by decide) (by simp [cat_rf, cat_i, cat_j]) ?_
  obtain ⟨x4, hxx4, h⟩ := bind_ok h
  have Kx4 : Og p l e s m args below meth c Γ 3 1 21 σ none ρ 37 [(0, va_rf (some t)), (1, va_rf q1)] [] x4 := by
    refine k_aload_n cx 0 dX0_dropOldest_37 rfl rfl ?_
    obtain ⟨a16, g17, h⟩ := bind_ok h
    refine q_getR cx fl_X0_11 g17 dX0_dropOldest_38 ?_
    obtain ⟨a18, g19, h⟩ := bind_ok h
    refine k_alen cx (by decide) g19 dX0_dropOldest_41 ?_
    obtain ⟨x20, hxx20, h⟩ := bind_ok h
    have Kx20 : Og p l e s m args below meth c Γ 3 1 21 σ none ρ 58 [(0, va_rf (some t))] [] x20 := by
      refine k_aload_n cx 0 dX0_dropOldest_58 rfl rfl ?_
      refine k_dup cx (by simp [cat_rf, cat_i, cat_j]) dX0_dropOldest_59 ?_
      obtain ⟨a26, g27, h⟩ := bind_ok h
      refine q_getI cx fl_X0_17 g27 dX0_dropOldest_60 ?_
      refine k_iconst cx 1 dX0_dropOldest_63 (by decide) ?_
      refine k_isub cx dX0_dropOldest_64 ?_
      refine q_putI cx pl_X0_17 g27 dX0_dropOldest_65 ?_
      have h := Option.some.inj h
      exact k_vret cx hr hlk rfl (by rw [← h]) dX0_dropOldest_68
    have h := hxx20
    refine k_if_le cx 58 dX0_dropOldest_42 (by decide) (fun c21 => ?_) (fun c21 => ?_)
    · have h := ite_t h c21
      refine k_sub [0] rfl ?_
      obtain rfl := Option.some.inj h
      exact Kx20
    · have h := ite_f h c21
      refine k_aload_n cx 0 dX0_dropOldest_45 rfl rfl ?_
      refine q_getR cx fl_X0_11 g17 dX0_dropOldest_46 ?_
      refine k_aload_n cx 0 dX0_dropOldest_49 rfl rfl ?_
      refine q_getR cx fl_X0_11 g17 dX0_dropOldest_50 ?_
      refine k_alen cx (by decide) g19 dX0_dropOldest_53 ?_
      refine k_iconst cx 1 dX0_dropOldest_54 (by decide) ?_
      refine k_isub cx dX0_dropOldest_55 ?_
      refine k_aload_n cx 1 dX0_dropOldest_56 rfl rfl ?_
      obtain ⟨j22, g23, h⟩ := bind_ok h
      obtain ⟨w24, g25, h⟩ := bind_ok h
      refine k_aast cx (by decide) g19 g23 g25 dX0_dropOldest_57 ?_
      refine k_sub [0] rfl ?_
      obtain rfl := Option.some.inj h
      exact Kx20
  have KLx4 : ∀ (n : Nat) (v2_8 : Int32) (τ8 : St), LX0_dropOldest_8 n t q1 v2_8 τ8 = some x4 → Og p l e s m args below meth c Γ 3 1 21 σ none ρ 8 [(0, va_rf (some t)), (1, va_rf q1), (2, .int v2_8)] [] τ8 := by
    intro n
    induction n with
    | zero => intro _ _ h; cases (show (none : Option _) = some x4 from h)
    | succ n ihx4 =>
      intro v2_8 τ8 h
      rw [LX0_dropOldest_8] at h
      refine k_iload_n cx 2 dX0_dropOldest_8 rfl rfl ?_
      refine k_aload_n cx 0 dX0_dropOldest_9 rfl rfl ?_
      obtain ⟨a5, g6, h⟩ := bind_ok h
      refine q_getR cx fl_X0_11 g6 dX0_dropOldest_10 ?_
      obtain ⟨a7, g8, h⟩ := bind_ok h
      refine k_alen cx (by decide) g8 dX0_dropOldest_13 ?_
      refine k_icmp_ge cx 37 dX0_dropOldest_14 (by decide) (fun c9 => ?_) (fun c9 => ?_)
      · have h := ite_t h c9
        refine k_sub [0, 1] rfl ?_
        obtain rfl := Option.some.inj h
        exact Kx4
      · have h := ite_f h c9
        refine k_aload_n cx 0 dX0_dropOldest_17 rfl rfl ?_
        refine q_getR cx fl_X0_11 g6 dX0_dropOldest_18 ?_
        refine k_iload_n cx 2 dX0_dropOldest_21 rfl rfl ?_
        refine k_iconst cx 1 dX0_dropOldest_22 (by decide) ?_
        refine k_isub cx dX0_dropOldest_23 ?_
        refine k_aload_n cx 0 dX0_dropOldest_24 rfl rfl ?_
        refine q_getR cx fl_X0_11 g6 dX0_dropOldest_25 ?_
        refine k_iload_n cx 2 dX0_dropOldest_28 rfl rfl ?_
        obtain ⟨j10, g11, h⟩ := bind_ok h
        refine k_aald cx (by decide) g8 g11 dX0_dropOldest_29 ?_
        obtain ⟨j12, g13, h⟩ := bind_ok h
        obtain ⟨w14, g15, h⟩ := bind_ok h
        refine k_aast cx (by decide) g8 g13 g15 dX0_dropOldest_30 ?_
        refine k_iinc cx 2 [(2, .int (v2_8 + 1)), (0, va_rf (some t)), (1, va_rf q1)] (v2_8 + 1) dX0_dropOldest_31 rfl rfl (by decide) (by simp [cat_rf, cat_i, cat_j]) ?_
        refine k_goto cx 8 dX0_dropOldest_34 (by decide) ?_
        refine k_sub [1, 2, 0] rfl ?_
        exact ihx4 _ _ h
  refine k_sub [2, 1, 0] rfl ?_
  exact KLx4 FU _ _ hxx4
set_option maxRecDepth 100000 in
set_option maxHeartbeats 4000000 in
theorem w_X5_lineAt {Γ : GE} {σ : St} {t : Nat} {p1 : Int32} {ρ : Option Nat} (hk : hpK σ t = 5) (h : f_X5_lineAt σ t p1 = some ρ) : Ct Γ yX5_lineAt cX5_lineAt 2 (some (.object "PoemPages$Line")) 0 0 [va_rf (some t), .int p1] σ (some (va_rf ρ)) σ := by
  refine ct_intro (own := RX5) (L0 := [(0, va_rf (some t)), (1, .int p1)]) (by decide +kernel) rfl (by simp [lg_sl, cat_rf, cat_i, cat_j]) (by simp [lv_args, cat_rf, cat_i, cat_j]) ?_
  intro p l e s m args below meth c hr hlk hin cx
  have hk0 := dn_eq hk
  unfold f_X5_lineAt at h
  refine k_iload_n cx 1 dX5_lineAt_0 rfl rfl ?_
  refine k_if_lt cx 21 dX5_lineAt_1 (by decide) (fun c1 => ?_) (fun c1 => ?_)
  · have h := ite_t h c1
    refine k_null cx dX5_lineAt_21 ?_
    refine k_goto cx 31 dX5_lineAt_22 (by decide) ?_
    have h := Option.some.inj h
    exact k_aret cx hr hlk (by rw [← h]) rfl dX5_lineAt_31
  · have h := ite_f h c1
    refine k_iload_n cx 1 dX5_lineAt_4 rfl rfl ?_
    refine k_aload_n cx 0 dX5_lineAt_5 rfl rfl ?_
    refine q_getI cx fl_X5_21 hk0 dX5_lineAt_6 ?_
    refine k_icmp_ge cx 21 dX5_lineAt_9 (by decide) (fun c2 => ?_) (fun c2 => ?_)
    · have h := ite_t h c2
      refine k_null cx dX5_lineAt_21 ?_
      refine k_goto cx 31 dX5_lineAt_22 (by decide) ?_
      have h := Option.some.inj h
      exact k_aret cx hr hlk (by rw [← h]) rfl dX5_lineAt_31
    · have h := ite_f h c2
      refine k_iload_n cx 1 dX5_lineAt_12 rfl rfl ?_
      refine k_aload_n cx 0 dX5_lineAt_13 rfl rfl ?_
      refine q_getR cx fl_X5_11 hk0 dX5_lineAt_14 ?_
      obtain ⟨a3, g4, h⟩ := bind_ok h
      refine k_alen cx (by decide) g4 dX5_lineAt_17 ?_
      refine k_icmp_lt cx 25 dX5_lineAt_18 (by decide) (fun c5 => ?_) (fun c5 => ?_)
      · have h := ite_t h c5
        refine k_aload_n cx 0 dX5_lineAt_25 rfl rfl ?_
        refine q_getR cx fl_X5_11 hk0 dX5_lineAt_26 ?_
        refine k_iload_n cx 1 dX5_lineAt_29 rfl rfl ?_
        obtain ⟨j6, g7, h⟩ := bind_ok h
        refine k_aald cx (by decide) g4 g7 dX5_lineAt_30 ?_
        have h := Option.some.inj h
        exact k_aret cx hr hlk (by rw [← h]) rfl dX5_lineAt_31
      · have h := ite_f h c5
        refine k_null cx dX5_lineAt_21 ?_
        refine k_goto cx 31 dX5_lineAt_22 (by decide) ?_
        have h := Option.some.inj h
        exact k_aret cx hr hlk (by rw [← h]) rfl dX5_lineAt_31
set_option maxRecDepth 100000 in
set_option maxHeartbeats 4000000 in
theorem w_X5_setting {Γ : GE} {σ : St} {t : Nat} {p1 : Int32} {ρ : Int32} (hk : hpK σ t = 5) (h : f_X5_setting σ t p1 = some ρ) : Ct Γ yX5_setting cX5_setting 2 (some .int) 1 21 [va_rf (some t), .int p1] σ (some (.int ρ)) σ := by
  refine ct_intro (own := RX5) (L0 := [(0, va_rf (some t)), (1, .int p1)]) (by decide +kernel) rfl (by simp [lg_sl, cat_rf, cat_i, cat_j]) (by simp [lv_args, cat_rf, cat_i, cat_j]) ?_
  intro p l e s m args below meth c hr hlk hin cx
  have hk0 := dn_eq hk
  unfold f_X5_setting at h
  refine k_aload_n cx 0 dX5_setting_0 rfl rfl ?_
  refine q_getR cx fl_X5_17 hk0 dX5_setting_1 ?_
  refine k_iload_n cx 1 dX5_setting_4 rfl rfl ?_
  obtain ⟨q1, g2, h⟩ := bind_ok h
  refine k_callSN cx iv_X5_28 (w_X10_element g2) (As := [va_rf (hpR σ 161 t), .int p1]) rfl rfl ⟨Nat.le_of_ble_eq_true rfl, Nat.le_of_ble_eq_true rfl⟩ (by simp [cat_rf, cat_i, cat_j]) dX5_setting_5 ?_
  have h := Option.some.inj h
  exact k_iret cx hr hlk (by rw [← h]) rfl dX5_setting_8
set_option maxRecDepth 100000 in
set_option maxHeartbeats 4000000 in
theorem w_X5_becomeLike {Γ : GE} {σ : St} {t : Nat} {p1 : Option Nat} {ρ : St} (hk : hpK σ t = 5) (h : f_X5_becomeLike σ t p1 = some ρ) : Ct Γ yX5_becomeLike cX5_becomeLike 3 none 2 42 [va_rf (some t), va_rf p1] σ none ρ := by
  refine ct_intro (own := RX5) (L0 := [(0, va_rf (some t)), (1, va_rf p1)]) (by decide +kernel) rfl (by simp [lg_sl, cat_rf, cat_i, cat_j]) (by simp [lv_args, cat_rf, cat_i, cat_j]) ?_
  intro p l e s m args below meth c hr hlk hin cx
  have hk0 := dn_eq hk
  unfold f_X5_becomeLike at h
  refine k_aload_n cx 0 dX5_becomeLike_0 rfl rfl ?_
  refine k_aload_n cx 1 dX5_becomeLike_1 rfl rfl ?_
  obtain ⟨a1, g2, h⟩ := bind_ok h
  refine q_getI cx fl_X5_21 g2 dX5_becomeLike_2 ?_
  refine q_putI cx pl_X5_21 hk0 dX5_becomeLike_5 ?_
  refine k_iconst cx 0 dX5_becomeLike_8 (by decide) ?_
  refine k_istore_n cx (i := 2) [(2, .int 0), (0, va_rf (some t)), (1, va_rf p1)] dX5_becomeLike_9 rfl (by decide) (by simp [cat_rf, cat_i, cat_j]) ?_
  obtain ⟨x4, hxx4, h⟩ := bind_ok h
  have Kx4 : Og p l e s m args below meth c Γ 3 2 42 σ none ρ 36 [(0, va_rf (some t)), (1, va_rf p1)] [] x4 := by
    refine k_iconst cx 0 dX5_becomeLike_36 (by decide) ?_
    refine k_istore_n cx (i := 2) [(2, .int 0), (0, va_rf (some t)), (1, va_rf p1)] dX5_becomeLike_37 rfl (by decide) (by simp [cat_rf, cat_i, cat_j]) ?_
    obtain ⟨x19, hxx19, h⟩ := bind_ok h
    have Kx19 : Og p l e s m args below meth c Γ 3 2 42 σ none ρ 64 [] [] x19 := by
      have h := Option.some.inj h
      exact k_vret cx hr hlk rfl (by rw [← h]) dX5_becomeLike_64
    have KLx19 : ∀ (n : Nat) (v2_38 : Int32) (τ38 : St), LX5_becomeLike_38 n t p1 v2_38 τ38 = some x19 → Og p l e s m args below meth c Γ 3 2 42 σ none ρ 38 [(0, va_rf (some t)), (1, va_rf p1), (2, .int v2_38)] [] τ38 := by
      intro n
      induction n with
      | zero => intro _ _ h; cases (show (none : Option _) = some x19 from h)
      | succ n ihx19 =>
        intro v2_38 τ38 h
        rw [LX5_becomeLike_38] at h
        refine k_iload_n cx 2 dX5_becomeLike_38 rfl rfl ?_
        refine k_aload_n cx 0 dX5_becomeLike_39 rfl rfl ?_
        obtain ⟨a20, g21, h⟩ := bind_ok h
        refine q_getR cx fl_X5_17 g21 dX5_becomeLike_40 ?_
        obtain ⟨a22, g23, h⟩ := bind_ok h
        refine k_alenA cx g23 dX5_becomeLike_43 ?_
        refine k_icmp_ge cx 64 dX5_becomeLike_44 (by decide) (fun c24 => ?_) (fun c24 => ?_)
        · have h := ite_t h c24
          refine k_sub [] rfl ?_
          obtain rfl := Option.some.inj h
          exact Kx19
        · have h := ite_f h c24
          refine k_aload_n cx 0 dX5_becomeLike_47 rfl rfl ?_
          refine q_getR cx fl_X5_17 g21 dX5_becomeLike_48 ?_
          refine k_iload_n cx 2 dX5_becomeLike_51 rfl rfl ?_
          refine k_aload_n cx 1 dX5_becomeLike_52 rfl rfl ?_
          refine k_iload_n cx 2 dX5_becomeLike_53 rfl rfl ?_
          obtain ⟨a25, g26, h⟩ := bind_ok h
          obtain ⟨q27, g28, h⟩ := bind_ok h
          refine k_callV cx iv_X5_44 (ci := 5) rfl (by decide) (w_X5_setting (dn_some g26).2 g28) g26 (As := [.int v2_38]) rfl rfl ⟨Nat.le_of_ble_eq_true rfl, Nat.le_of_ble_eq_true rfl⟩ (by simp [cat_rf, cat_i, cat_j]) dX5_becomeLike_54 ?_
          obtain ⟨a29, g30, h⟩ := bind_ok h
          obtain ⟨j31, g32, h⟩ := bind_ok h
          refine k_iast cx g30 g32 dX5_becomeLike_57 ?_
          refine k_iinc cx 2 [(2, .int (v2_38 + 1)), (0, va_rf (some t)), (1, va_rf p1)] (v2_38 + 1) dX5_becomeLike_58 rfl rfl (by decide) (by simp [cat_rf, cat_i, cat_j]) ?_
          refine k_goto cx 38 dX5_becomeLike_61 (by decide) ?_
          refine k_sub [1, 2, 0] rfl ?_
          exact ihx19 _ _ h
    refine k_sub [1, 2, 0] rfl ?_
    exact KLx19 FU _ _ hxx19
  have KLx4 : ∀ (n : Nat) (v2_10 : Int32) (τ10 : St), LX5_becomeLike_10 n t p1 v2_10 τ10 = some x4 → Og p l e s m args below meth c Γ 3 2 42 σ none ρ 10 [(0, va_rf (some t)), (1, va_rf p1), (2, .int v2_10)] [] τ10 := by
    intro n
    induction n with
    | zero => intro _ _ h; cases (show (none : Option _) = some x4 from h)
    | succ n ihx4 =>
      intro v2_10 τ10 h
      rw [LX5_becomeLike_10] at h
      refine k_iload_n cx 2 dX5_becomeLike_10 rfl rfl ?_
      refine k_aload_n cx 0 dX5_becomeLike_11 rfl rfl ?_
      obtain ⟨a5, g6, h⟩ := bind_ok h
      refine q_getR cx fl_X5_11 g6 dX5_becomeLike_12 ?_
      obtain ⟨a7, g8, h⟩ := bind_ok h
      refine k_alen cx (by decide) g8 dX5_becomeLike_15 ?_
      refine k_icmp_ge cx 36 dX5_becomeLike_16 (by decide) (fun c9 => ?_) (fun c9 => ?_)
      · have h := ite_t h c9
        refine k_sub [0, 1] rfl ?_
        obtain rfl := Option.some.inj h
        exact Kx4
      · have h := ite_f h c9
        refine k_aload_n cx 0 dX5_becomeLike_19 rfl rfl ?_
        refine q_getR cx fl_X5_11 g6 dX5_becomeLike_20 ?_
        refine k_iload_n cx 2 dX5_becomeLike_23 rfl rfl ?_
        refine k_aload_n cx 1 dX5_becomeLike_24 rfl rfl ?_
        refine k_iload_n cx 2 dX5_becomeLike_25 rfl rfl ?_
        obtain ⟨a10, g11, h⟩ := bind_ok h
        obtain ⟨q12, g13, h⟩ := bind_ok h
        refine k_callV cx iv_X5_32 (ci := 5) rfl (by decide) (w_X5_lineAt (dn_some g11).2 g13) g11 (As := [.int v2_10]) rfl rfl ⟨Nat.le_of_ble_eq_true rfl, Nat.le_of_ble_eq_true rfl⟩ (by simp [cat_rf, cat_i, cat_j]) dX5_becomeLike_26 ?_
        obtain ⟨j14, g15, h⟩ := bind_ok h
        obtain ⟨w16, g17, h⟩ := bind_ok h
        refine k_aast cx (by decide) g8 g15 g17 dX5_becomeLike_29 ?_
        refine k_iinc cx 2 [(2, .int (v2_10 + 1)), (0, va_rf (some t)), (1, va_rf p1)] (v2_10 + 1) dX5_becomeLike_30 rfl rfl (by decide) (by simp [cat_rf, cat_i, cat_j]) ?_
        refine k_goto cx 10 dX5_becomeLike_33 (by decide) ?_
        refine k_sub [1, 2, 0] rfl ?_
        exact ihx4 _ _ h
  refine k_sub [1, 2, 0] rfl ?_
  exact KLx4 FU _ _ hxx4
set_option maxRecDepth 100000 in
set_option maxHeartbeats 4000000 in
theorem w_X0_keepState {Γ : GE} {σ : St} {t : Nat} {p1 : Option Nat} {ρ : St} (hk : hpK σ t = 0) (h : f_X0_keepState σ t p1 = some ρ) : Ct Γ yX0_keepState cX0_keepState 3 none 3 64 [va_rf (some t), va_rf p1] σ none ρ := by
  refine ct_intro (own := RX0) (L0 := [(0, va_rf (some t)), (1, va_rf p1)]) (by decide +kernel) rfl (by simp [lg_sl, cat_rf, cat_i, cat_j]) (by simp [lv_args, cat_rf, cat_i, cat_j]) ?_
  intro p l e s m args below meth c hr hlk hin cx
  have hk0 := dn_eq hk
  unfold f_X0_keepState at h
  refine k_aload_n cx 0 dX0_keepState_0 rfl rfl ?_
  refine q_getI cx fl_X0_17 hk0 dX0_keepState_1 ?_
  refine k_aload_n cx 0 dX0_keepState_4 rfl rfl ?_
  refine q_getR cx fl_X0_11 hk0 dX0_keepState_5 ?_
  obtain ⟨a1, g2, h⟩ := bind_ok h
  refine k_alen cx (by decide) g2 dX0_keepState_8 ?_
  obtain ⟨x3, hxx3, h⟩ := bind_ok h
  have Kx3 : Og p l e s m args below meth c Γ 3 3 64 σ none ρ 16 [(0, va_rf (some t)), (1, va_rf p1)] [] x3 := by
    refine k_aload_n cx 0 dX0_keepState_16 rfl rfl ?_
    refine k_aload_n cx 0 dX0_keepState_17 rfl rfl ?_
    obtain ⟨a7, g8, h⟩ := bind_ok h
    refine q_getI cx fl_X0_17 g8 dX0_keepState_18 ?_
    obtain ⟨q9, g10, h⟩ := bind_ok h
    refine k_callV cx iv_X0_25 (ci := 0) rfl (by decide) (w_X0_stateAt (dn_some g8).2 g10) g8 (As := [.int (hpI x3 1 a7)]) rfl rfl ⟨Nat.le_of_ble_eq_true rfl, Nat.le_of_ble_eq_true rfl⟩ (by simp [cat_rf, cat_i, cat_j]) dX0_keepState_21 ?_
    refine k_astore_n cx (i := 2) [(2, va_rf q9), (0, va_rf (some t)), (1, va_rf p1)] dX0_keepState_24 rfl (by decide) (by simp [cat_rf, cat_i, cat_j]) ?_
    refine k_aload_n cx 0 dX0_keepState_25 rfl rfl ?_
    refine k_ifnull cx 44 dX0_keepState_26 (by decide) (fun c11 => ?_) (fun a18 c11 => ?_)
    · have h := ite_t h c11
      have h := Option.some.inj h
      exact k_vret cx hr hlk rfl (by rw [← h]) dX0_keepState_44
    · have h := ite_f h (ne_nn c11)
      refine k_aload_n cx 0 dX0_keepState_29 rfl rfl ?_
      refine k_aload_n cx 2 dX0_keepState_30 rfl rfl ?_
      obtain ⟨a12, g13, h⟩ := bind_ok h
      obtain ⟨q14, g15, h⟩ := bind_ok h
      refine k_callV cx iv_X0_29 (ci := 5) rfl (by decide) (w_X5_becomeLike (dn_some g13).2 g15) g13 (As := [va_rf p1]) rfl rfl ⟨Nat.le_of_ble_eq_true rfl, Nat.le_of_ble_eq_true rfl⟩ (by simp [cat_rf, cat_i, cat_j]) dX0_keepState_31 ?_
      refine k_aload_n cx 1 dX0_keepState_34 rfl rfl ?_
      refine k_dup cx (by simp [cat_rf, cat_i, cat_j]) dX0_keepState_35 ?_
      obtain ⟨a16, g17, h⟩ := bind_ok h
      refine q_getI cx fl_X0_17 g17 dX0_keepState_36 ?_
      refine k_iconst cx 1 dX0_keepState_39 (by decide) ?_
      refine k_iadd cx dX0_keepState_40 ?_
      refine q_putI cx pl_X0_17 g17 dX0_keepState_41 ?_
      have h := Option.some.inj h
      exact k_vret cx hr hlk rfl (by rw [← h]) dX0_keepState_44
  have h := hxx3
  refine k_icmp_lt cx 16 dX0_keepState_9 (by decide) (fun c4 => ?_) (fun c4 => ?_)
  · have h := ite_t h c4
    obtain rfl := Option.some.inj h
    exact Kx3
  · have h := ite_f h c4
    refine k_aload_n cx 0 dX0_keepState_12 rfl rfl ?_
    obtain ⟨q5, g6, h⟩ := bind_ok h
    refine k_callV cx iv_X0_22 (ci := 0) rfl (by decide) (w_X0_dropOldest (dn_some hk0).2 g6) hk0 (As := []) rfl rfl ⟨Nat.le_of_ble_eq_true rfl, Nat.le_of_ble_eq_true rfl⟩ (by simp [cat_rf, cat_i, cat_j]) dX0_keepState_13 ?_
    obtain rfl := Option.some.inj h
    exact Kx3
set_option maxRecDepth 100000 in
set_option maxHeartbeats 4000000 in
theorem w_X1_init {Γ : GE} {σ : St} {t : Nat} {ρ : St} (hk : hpK σ t = 1) (h : f_X1_init σ t = some ρ) : Ct Γ yX1_init cX1_init 1 none 1 20 [va_rf (some t)] σ none ρ := by
  refine ct_intro (own := RX1) (L0 := [(0, va_rf (some t))]) (by decide +kernel) rfl (by simp [lg_sl, cat_rf, cat_i, cat_j]) (by simp [lv_args, cat_rf, cat_i, cat_j]) ?_
  intro p l e s m args below meth c hr hlk hin cx
  have hk0 := dn_eq hk
  unfold f_X1_init at h
  refine k_aload_n cx 0 dX1_init_0 rfl rfl ?_
  refine k_objInit cx oi_X1_3 oi_i oi_c ⟨Nat.le_of_ble_eq_true rfl, Nat.le_of_ble_eq_true rfl⟩ (by simp [cat_rf, cat_i, cat_j]) dX1_init_1 ?_
  refine k_aload_n cx 0 dX1_init_4 rfl rfl ?_
  refine k_sipush cx 480 dX1_init_5 (by decide) ?_
  obtain ⟨σ1, g2, h⟩ := bind_ok h
  refine k_anew cx (k := 18) (by decide) rfl cl_X1_9 g2 dX1_init_8 ?_
  obtain ⟨a3, g4, h⟩ := bind_ok h
  refine q_putRF cx pl_X1_11 hin g4 dX1_init_11 ?_
  refine k_aload_n cx 0 dX1_init_14 rfl rfl ?_
  refine k_bipush cx 24 dX1_init_15 (by decide) ?_
  obtain ⟨σ5, g6, h⟩ := bind_ok h
  refine k_anew cx (k := 15) (by decide) rfl cl_X1_17 g6 dX1_init_17 ?_
  obtain ⟨a7, g8, h⟩ := bind_ok h
  refine q_putRF cx pl_X1_19 hin g8 dX1_init_20 ?_
  refine k_aload_n cx 0 dX1_init_23 rfl rfl ?_
  refine k_bipush cx 24 dX1_init_24 (by decide) ?_
  obtain ⟨σ9, g10, h⟩ := bind_ok h
  refine k_anew cx (k := 19) (by decide) rfl cl_X1_23 g10 dX1_init_26 ?_
  obtain ⟨a11, g12, h⟩ := bind_ok h
  refine q_putRF cx pl_X1_25 hin g12 dX1_init_29 ?_
  refine k_aload_n cx 0 dX1_init_32 rfl rfl ?_
  refine k_sipush cx 480 dX1_init_33 (by decide) ?_
  obtain ⟨σ13, g14, h⟩ := bind_ok h
  refine k_anew cx (k := 16) (by decide) rfl cl_X1_29 g14 dX1_init_36 ?_
  obtain ⟨a15, g16, h⟩ := bind_ok h
  refine q_putRF cx pl_X1_31 hin g16 dX1_init_39 ?_
  refine k_aload_n cx 0 dX1_init_42 rfl rfl ?_
  refine k_iconst cx 0 dX1_init_43 (by decide) ?_
  refine q_putI cx pl_X1_35 g16 dX1_init_44 ?_
  refine k_aload_n cx 0 dX1_init_47 rfl rfl ?_
  refine k_iconst cx 0 dX1_init_48 (by decide) ?_
  refine q_putI cx pl_X1_39 g16 dX1_init_49 ?_
  refine k_aload_n cx 0 dX1_init_52 rfl rfl ?_
  refine k_iconst cx 0 dX1_init_53 (by decide) ?_
  refine q_putI cx pl_X1_42 g16 dX1_init_54 ?_
  refine k_aload_n cx 0 dX1_init_57 rfl rfl ?_
  refine k_iconst cx 0 dX1_init_58 (by decide) ?_
  refine q_putI cx pl_X1_45 g16 dX1_init_59 ?_
  refine k_aload_n cx 0 dX1_init_62 rfl rfl ?_
  refine k_iconst cx 0 dX1_init_63 (by decide) ?_
  refine q_putI cx pl_X1_48 g16 dX1_init_64 ?_
  have h := Option.some.inj h
  exact k_vret cx hr hlk rfl (by rw [← h]) dX1_init_67
set_option maxRecDepth 100000 in
set_option maxHeartbeats 4000000 in
theorem w_X1_rowAt {Γ : GE} {σ : St} {t : Nat} {p1 : Int32} {ρ : Option Nat} (hk : hpK σ t = 1) (h : f_X1_rowAt σ t p1 = some ρ) : Ct Γ yX1_rowAt cX1_rowAt 2 (some (.object "PoemPages$Row")) 0 0 [va_rf (some t), .int p1] σ (some (va_rf ρ)) σ := by
  refine ct_intro (own := RX1) (L0 := [(0, va_rf (some t)), (1, .int p1)]) (by decide +kernel) rfl (by simp [lg_sl, cat_rf, cat_i, cat_j]) (by simp [lv_args, cat_rf, cat_i, cat_j]) ?_
  intro p l e s m args below meth c hr hlk hin cx
  have hk0 := dn_eq hk
  unfold f_X1_rowAt at h
  refine k_iload_n cx 1 dX1_rowAt_0 rfl rfl ?_
  refine k_if_lt cx 21 dX1_rowAt_1 (by decide) (fun c1 => ?_) (fun c1 => ?_)
  · have h := ite_t h c1
    refine k_null cx dX1_rowAt_21 ?_
    refine k_goto cx 31 dX1_rowAt_22 (by decide) ?_
    have h := Option.some.inj h
    exact k_aret cx hr hlk (by rw [← h]) rfl dX1_rowAt_31
  · have h := ite_f h c1
    refine k_iload_n cx 1 dX1_rowAt_4 rfl rfl ?_
    refine k_aload_n cx 0 dX1_rowAt_5 rfl rfl ?_
    refine q_getI cx fl_X1_35 hk0 dX1_rowAt_6 ?_
    refine k_icmp_ge cx 21 dX1_rowAt_9 (by decide) (fun c2 => ?_) (fun c2 => ?_)
    · have h := ite_t h c2
      refine k_null cx dX1_rowAt_21 ?_
      refine k_goto cx 31 dX1_rowAt_22 (by decide) ?_
      have h := Option.some.inj h
      exact k_aret cx hr hlk (by rw [← h]) rfl dX1_rowAt_31
    · have h := ite_f h c2
      refine k_iload_n cx 1 dX1_rowAt_12 rfl rfl ?_
      refine k_aload_n cx 0 dX1_rowAt_13 rfl rfl ?_
      refine q_getR cx fl_X1_11 hk0 dX1_rowAt_14 ?_
      obtain ⟨a3, g4, h⟩ := bind_ok h
      refine k_alen cx (by decide) g4 dX1_rowAt_17 ?_
      refine k_icmp_lt cx 25 dX1_rowAt_18 (by decide) (fun c5 => ?_) (fun c5 => ?_)
      · have h := ite_t h c5
        refine k_aload_n cx 0 dX1_rowAt_25 rfl rfl ?_
        refine q_getR cx fl_X1_11 hk0 dX1_rowAt_26 ?_
        refine k_iload_n cx 1 dX1_rowAt_29 rfl rfl ?_
        obtain ⟨j6, g7, h⟩ := bind_ok h
        refine k_aald cx (by decide) g4 g7 dX1_rowAt_30 ?_
        have h := Option.some.inj h
        exact k_aret cx hr hlk (by rw [← h]) rfl dX1_rowAt_31
      · have h := ite_f h c5
        refine k_null cx dX1_rowAt_21 ?_
        refine k_goto cx 31 dX1_rowAt_22 (by decide) ?_
        have h := Option.some.inj h
        exact k_aret cx hr hlk (by rw [← h]) rfl dX1_rowAt_31
set_option maxRecDepth 100000 in
set_option maxHeartbeats 4000000 in
theorem w_X1_spanAt {Γ : GE} {σ : St} {t : Nat} {p1 : Int32} {ρ : Option Nat} (hk : hpK σ t = 1) (h : f_X1_spanAt σ t p1 = some ρ) : Ct Γ yX1_spanAt cX1_spanAt 2 (some (.object "PoemPages$LineSpan")) 0 0 [va_rf (some t), .int p1] σ (some (va_rf ρ)) σ := by
  refine ct_intro (own := RX1) (L0 := [(0, va_rf (some t)), (1, .int p1)]) (by decide +kernel) rfl (by simp [lg_sl, cat_rf, cat_i, cat_j]) (by simp [lv_args, cat_rf, cat_i, cat_j]) ?_
  intro p l e s m args below meth c hr hlk hin cx
  have hk0 := dn_eq hk
  unfold f_X1_spanAt at h
  refine k_iload_n cx 1 dX1_spanAt_0 rfl rfl ?_
  refine k_if_lt cx 21 dX1_spanAt_1 (by decide) (fun c1 => ?_) (fun c1 => ?_)
  · have h := ite_t h c1
    refine k_null cx dX1_spanAt_21 ?_
    refine k_goto cx 31 dX1_spanAt_22 (by decide) ?_
    have h := Option.some.inj h
    exact k_aret cx hr hlk (by rw [← h]) rfl dX1_spanAt_31
  · have h := ite_f h c1
    refine k_iload_n cx 1 dX1_spanAt_4 rfl rfl ?_
    refine k_aload_n cx 0 dX1_spanAt_5 rfl rfl ?_
    refine q_getI cx fl_X1_45 hk0 dX1_spanAt_6 ?_
    refine k_icmp_ge cx 21 dX1_spanAt_9 (by decide) (fun c2 => ?_) (fun c2 => ?_)
    · have h := ite_t h c2
      refine k_null cx dX1_spanAt_21 ?_
      refine k_goto cx 31 dX1_spanAt_22 (by decide) ?_
      have h := Option.some.inj h
      exact k_aret cx hr hlk (by rw [← h]) rfl dX1_spanAt_31
    · have h := ite_f h c2
      refine k_iload_n cx 1 dX1_spanAt_12 rfl rfl ?_
      refine k_aload_n cx 0 dX1_spanAt_13 rfl rfl ?_
      refine q_getR cx fl_X1_19 hk0 dX1_spanAt_14 ?_
      obtain ⟨a3, g4, h⟩ := bind_ok h
      refine k_alen cx (by decide) g4 dX1_spanAt_17 ?_
      refine k_icmp_lt cx 25 dX1_spanAt_18 (by decide) (fun c5 => ?_) (fun c5 => ?_)
      · have h := ite_t h c5
        refine k_aload_n cx 0 dX1_spanAt_25 rfl rfl ?_
        refine q_getR cx fl_X1_19 hk0 dX1_spanAt_26 ?_
        refine k_iload_n cx 1 dX1_spanAt_29 rfl rfl ?_
        obtain ⟨j6, g7, h⟩ := bind_ok h
        refine k_aald cx (by decide) g4 g7 dX1_spanAt_30 ?_
        have h := Option.some.inj h
        exact k_aret cx hr hlk (by rw [← h]) rfl dX1_spanAt_31
      · have h := ite_f h c5
        refine k_null cx dX1_spanAt_21 ?_
        refine k_goto cx 31 dX1_spanAt_22 (by decide) ?_
        have h := Option.some.inj h
        exact k_aret cx hr hlk (by rw [← h]) rfl dX1_spanAt_31
set_option maxRecDepth 100000 in
set_option maxHeartbeats 4000000 in
theorem w_X1_stanzaAt {Γ : GE} {σ : St} {t : Nat} {p1 : Int32} {ρ : Option Nat} (hk : hpK σ t = 1) (h : f_X1_stanzaAt σ t p1 = some ρ) : Ct Γ yX1_stanzaAt cX1_stanzaAt 2 (some (.object "PoemPages$Stanza")) 0 0 [va_rf (some t), .int p1] σ (some (va_rf ρ)) σ := by
  refine ct_intro (own := RX1) (L0 := [(0, va_rf (some t)), (1, .int p1)]) (by decide +kernel) rfl (by simp [lg_sl, cat_rf, cat_i, cat_j]) (by simp [lv_args, cat_rf, cat_i, cat_j]) ?_
  intro p l e s m args below meth c hr hlk hin cx
  have hk0 := dn_eq hk
  unfold f_X1_stanzaAt at h
  refine k_iload_n cx 1 dX1_stanzaAt_0 rfl rfl ?_
  refine k_if_lt cx 21 dX1_stanzaAt_1 (by decide) (fun c1 => ?_) (fun c1 => ?_)
  · have h := ite_t h c1
    refine k_null cx dX1_stanzaAt_21 ?_
    refine k_goto cx 31 dX1_stanzaAt_22 (by decide) ?_
    have h := Option.some.inj h
    exact k_aret cx hr hlk (by rw [← h]) rfl dX1_stanzaAt_31
  · have h := ite_f h c1
    refine k_iload_n cx 1 dX1_stanzaAt_4 rfl rfl ?_
    refine k_aload_n cx 0 dX1_stanzaAt_5 rfl rfl ?_
    refine q_getI cx fl_X1_39 hk0 dX1_stanzaAt_6 ?_
    refine k_icmp_ge cx 21 dX1_stanzaAt_9 (by decide) (fun c2 => ?_) (fun c2 => ?_)
    · have h := ite_t h c2
      refine k_null cx dX1_stanzaAt_21 ?_
      refine k_goto cx 31 dX1_stanzaAt_22 (by decide) ?_
      have h := Option.some.inj h
      exact k_aret cx hr hlk (by rw [← h]) rfl dX1_stanzaAt_31
    · have h := ite_f h c2
      refine k_iload_n cx 1 dX1_stanzaAt_12 rfl rfl ?_
      refine k_aload_n cx 0 dX1_stanzaAt_13 rfl rfl ?_
      refine q_getR cx fl_X1_25 hk0 dX1_stanzaAt_14 ?_
      obtain ⟨a3, g4, h⟩ := bind_ok h
      refine k_alen cx (by decide) g4 dX1_stanzaAt_17 ?_
      refine k_icmp_lt cx 25 dX1_stanzaAt_18 (by decide) (fun c5 => ?_) (fun c5 => ?_)
      · have h := ite_t h c5
        refine k_aload_n cx 0 dX1_stanzaAt_25 rfl rfl ?_
        refine q_getR cx fl_X1_25 hk0 dX1_stanzaAt_26 ?_
        refine k_iload_n cx 1 dX1_stanzaAt_29 rfl rfl ?_
        obtain ⟨j6, g7, h⟩ := bind_ok h
        refine k_aald cx (by decide) g4 g7 dX1_stanzaAt_30 ?_
        have h := Option.some.inj h
        exact k_aret cx hr hlk (by rw [← h]) rfl dX1_stanzaAt_31
      · have h := ite_f h c5
        refine k_null cx dX1_stanzaAt_21 ?_
        refine k_goto cx 31 dX1_stanzaAt_22 (by decide) ?_
        have h := Option.some.inj h
        exact k_aret cx hr hlk (by rw [← h]) rfl dX1_stanzaAt_31
set_option maxRecDepth 100000 in
set_option maxHeartbeats 4000000 in
theorem w_X1_pageAt {Γ : GE} {σ : St} {t : Nat} {p1 : Int32} {ρ : Option Nat} (hk : hpK σ t = 1) (h : f_X1_pageAt σ t p1 = some ρ) : Ct Γ yX1_pageAt cX1_pageAt 2 (some (.object "PoemPages$Page")) 0 0 [va_rf (some t), .int p1] σ (some (va_rf ρ)) σ := by
  refine ct_intro (own := RX1) (L0 := [(0, va_rf (some t)), (1, .int p1)]) (by decide +kernel) rfl (by simp [lg_sl, cat_rf, cat_i, cat_j]) (by simp [lv_args, cat_rf, cat_i, cat_j]) ?_
  intro p l e s m args below meth c hr hlk hin cx
  have hk0 := dn_eq hk
  unfold f_X1_pageAt at h
  refine k_iload_n cx 1 dX1_pageAt_0 rfl rfl ?_
  refine k_if_lt cx 21 dX1_pageAt_1 (by decide) (fun c1 => ?_) (fun c1 => ?_)
  · have h := ite_t h c1
    refine k_null cx dX1_pageAt_21 ?_
    refine k_goto cx 31 dX1_pageAt_22 (by decide) ?_
    have h := Option.some.inj h
    exact k_aret cx hr hlk (by rw [← h]) rfl dX1_pageAt_31
  · have h := ite_f h c1
    refine k_iload_n cx 1 dX1_pageAt_4 rfl rfl ?_
    refine k_aload_n cx 0 dX1_pageAt_5 rfl rfl ?_
    refine q_getI cx fl_X1_42 hk0 dX1_pageAt_6 ?_
    refine k_icmp_ge cx 21 dX1_pageAt_9 (by decide) (fun c2 => ?_) (fun c2 => ?_)
    · have h := ite_t h c2
      refine k_null cx dX1_pageAt_21 ?_
      refine k_goto cx 31 dX1_pageAt_22 (by decide) ?_
      have h := Option.some.inj h
      exact k_aret cx hr hlk (by rw [← h]) rfl dX1_pageAt_31
    · have h := ite_f h c2
      refine k_iload_n cx 1 dX1_pageAt_12 rfl rfl ?_
      refine k_aload_n cx 0 dX1_pageAt_13 rfl rfl ?_
      refine q_getR cx fl_X1_31 hk0 dX1_pageAt_14 ?_
      obtain ⟨a3, g4, h⟩ := bind_ok h
      refine k_alen cx (by decide) g4 dX1_pageAt_17 ?_
      refine k_icmp_lt cx 25 dX1_pageAt_18 (by decide) (fun c5 => ?_) (fun c5 => ?_)
      · have h := ite_t h c5
        refine k_aload_n cx 0 dX1_pageAt_25 rfl rfl ?_
        refine q_getR cx fl_X1_31 hk0 dX1_pageAt_26 ?_
        refine k_iload_n cx 1 dX1_pageAt_29 rfl rfl ?_
        obtain ⟨j6, g7, h⟩ := bind_ok h
        refine k_aald cx (by decide) g4 g7 dX1_pageAt_30 ?_
        have h := Option.some.inj h
        exact k_aret cx hr hlk (by rw [← h]) rfl dX1_pageAt_31
      · have h := ite_f h c5
        refine k_null cx dX1_pageAt_21 ?_
        refine k_goto cx 31 dX1_pageAt_22 (by decide) ?_
        have h := Option.some.inj h
        exact k_aret cx hr hlk (by rw [← h]) rfl dX1_pageAt_31
set_option maxRecDepth 100000 in
set_option maxHeartbeats 4000000 in
theorem w_X1_rowAtPlace {Γ : GE} {σ : St} {t : Nat} {p1 : Option Nat} {p2 : Int32} {ρ : Option Nat} (hk : hpK σ t = 1) (h : f_X1_rowAtPlace σ t p1 p2 = some ρ) : Ct Γ yX1_rowAtPlace cX1_rowAtPlace 5 (some (.object "PoemPages$Row")) 1 21 [va_rf (some t), va_rf p1, .int p2] σ (some (va_rf ρ)) σ := by
  refine ct_intro (own := RX1) (L0 := [(0, va_rf (some t)), (1, va_rf p1), (2, .int p2)]) (by decide +kernel) rfl (by simp [lg_sl, cat_rf, cat_i, cat_j]) (by simp [lv_args, cat_rf, cat_i, cat_j]) ?_
  intro p l e s m args below meth c hr hlk hin cx
  have hk0 := dn_eq hk
  unfold f_X1_rowAtPlace at h
  refine k_aload_n cx 1 dX1_rowAtPlace_0 rfl rfl ?_
  obtain ⟨a1, g2, h⟩ := bind_ok h
  refine q_getI cx fl_X1_51 g2 dX1_rowAtPlace_1 ?_
  refine k_istore_n cx (i := 3) [(3, .int (hpI σ 128 a1)), (0, va_rf (some t)), (1, va_rf p1), (2, .int p2)] dX1_rowAtPlace_4 rfl (by decide) (by simp [cat_rf, cat_i, cat_j]) ?_
  obtain ⟨x4, hxx4, Hx4⟩ := sb_ok h
  have Kx4 : ∀ wx4, .inr wx4 = x4 → Og p l e s m args below meth c Γ 5 1 21 σ (some (va_rf ρ)) σ 48 [] [] σ := by
    intro wx4 hw
    have h := sb_inr hw Hx4
    refine k_null cx dX1_rowAtPlace_48 ?_
    have h := Option.some.inj h
    exact k_aret cx hr hlk (by rw [← h]) rfl dX1_rowAtPlace_49
  have KLx4 : ∀ (n : Nat) (v3_5 : Int32), LX1_rowAtPlace_5 n σ t p1 p2 v3_5 = some x4 → Og p l e s m args below meth c Γ 5 1 21 σ (some (va_rf ρ)) σ 5 [(0, va_rf (some t)), (1, va_rf p1), (2, .int p2), (3, .int v3_5)] [] σ := by
    intro n
    induction n with
    | zero => intro _ h; cases (show (none : Option _) = some x4 from h)
    | succ n ihx4 =>
      intro v3_5 h
      rw [LX1_rowAtPlace_5] at h
      refine k_iload_n cx 3 dX1_rowAtPlace_5 rfl rfl ?_
      refine k_aload_n cx 1 dX1_rowAtPlace_6 rfl rfl ?_
      obtain ⟨a5, g6, h⟩ := bind_ok h
      refine q_getI cx fl_X1_51 g6 dX1_rowAtPlace_7 ?_
      refine k_aload_n cx 1 dX1_rowAtPlace_10 rfl rfl ?_
      refine q_getI cx fl_X1_54 g6 dX1_rowAtPlace_11 ?_
      refine k_iadd cx dX1_rowAtPlace_14 ?_
      refine k_icmp_ge cx 48 dX1_rowAtPlace_15 (by decide) (fun c7 => ?_) (fun c7 => ?_)
      · have h := ite_t h c7
        refine k_sub [] rfl ?_
        exact Kx4 _ (Option.some.inj h)
      · have h := ite_f h c7
        refine k_aload_n cx 0 dX1_rowAtPlace_18 rfl rfl ?_
        refine k_iload_n cx 3 dX1_rowAtPlace_19 rfl rfl ?_
        obtain ⟨q8, g9, h⟩ := bind_ok h
        refine k_callV cx iv_X1_56 (ci := 1) rfl (by decide) (w_X1_rowAt (dn_some hk0).2 g9) hk0 (As := [.int v3_5]) rfl rfl ⟨Nat.le_of_ble_eq_true rfl, Nat.le_of_ble_eq_true rfl⟩ (by simp [cat_rf, cat_i, cat_j]) dX1_rowAtPlace_20 ?_
        refine k_astore cx [(4, va_rf q8), (0, va_rf (some t)), (1, va_rf p1), (2, .int p2), (3, .int v3_5)] dX1_rowAtPlace_23 (by decide) (by simp [cat_rf, cat_i, cat_j]) ?_
        refine k_aload cx 0 dX1_rowAtPlace_25 rfl ?_
        obtain ⟨x10, hxx10, Hx10⟩ := sb_ok h
        have Kx10 : ∀ wx10 : Unit, .inr wx10 = x10 → Og p l e s m args below meth c Γ 5 1 21 σ (some (va_rf ρ)) σ 42 [(0, va_rf (some t)), (1, va_rf p1), (2, .int p2), (3, .int v3_5)] [] σ := by
          intro wx10 hw
          have h := sb_inr hw Hx10
          refine k_iinc cx 3 [(3, .int (v3_5 + 1)), (0, va_rf (some t)), (1, va_rf p1), (2, .int p2)] (v3_5 + 1) dX1_rowAtPlace_42 rfl rfl (by decide) (by simp [cat_rf, cat_i, cat_j]) ?_
          refine k_goto cx 5 dX1_rowAtPlace_45 (by decide) ?_
          refine k_sub [1, 2, 3, 0] rfl ?_
          exact ihx4 _ h
        have h := hxx10
        refine k_ifnull cx 42 dX1_rowAtPlace_27 (by decide) (fun c11 => ?_) (fun a15 c11 => ?_)
        · have h := ite_t h c11
          refine k_sub [1, 2, 3, 4] rfl ?_
          exact Kx10 _ (Option.some.inj h)
        · have h := ite_f h (ne_nn c11)
          refine k_aload cx 0 dX1_rowAtPlace_30 rfl ?_
          obtain ⟨a12, g13, h⟩ := bind_ok h
          refine q_getI cx fl_X1_60 g13 dX1_rowAtPlace_32 ?_
          refine k_iload_n cx 3 dX1_rowAtPlace_35 rfl rfl ?_
          refine k_icmp_ne cx 42 dX1_rowAtPlace_36 (by decide) (fun c14 => ?_) (fun c14 => ?_)
          · have h := ite_t h c14
            refine k_sub [1, 2, 3, 4] rfl ?_
            exact Kx10 _ (Option.some.inj h)
          · have h := ite_f h c14
            refine k_aload cx 0 dX1_rowAtPlace_39 rfl ?_
            have h := Option.some.inj h
            have h := sb_ret h Hx10
            have h := sb_ret h Hx4
            exact k_aret cx hr hlk (by rw [← h]) rfl dX1_rowAtPlace_41
  refine k_sub [1, 2, 3, 0] rfl ?_
  exact KLx4 FU _ hxx4
set_option maxRecDepth 100000 in
set_option maxHeartbeats 4000000 in
theorem w_X1_runOvers {Γ : GE} {σ : St} {t : Nat} {ρ : Int32} (hk : hpK σ t = 1) (h : f_X1_runOvers σ t = some ρ) : Ct Γ yX1_runOvers cX1_runOvers 1 (some .int) 0 0 [va_rf (some t)] σ (some (.int ρ)) σ := by
  refine ct_intro (own := RX1) (L0 := [(0, va_rf (some t))]) (by decide +kernel) rfl (by simp [lg_sl, cat_rf, cat_i, cat_j]) (by simp [lv_args, cat_rf, cat_i, cat_j]) ?_
  intro p l e s m args below meth c hr hlk hin cx
  have hk0 := dn_eq hk
  unfold f_X1_runOvers at h
  refine k_aload_n cx 0 dX1_runOvers_0 rfl rfl ?_
  refine q_getI cx fl_X1_35 hk0 dX1_runOvers_1 ?_
  refine k_aload_n cx 0 dX1_runOvers_4 rfl rfl ?_
  refine q_getI cx fl_X1_45 hk0 dX1_runOvers_5 ?_
  refine k_isub cx dX1_runOvers_8 ?_
  have h := Option.some.inj h
  exact k_iret cx hr hlk (by rw [← h]) rfl dX1_runOvers_9
set_option maxRecDepth 100000 in
set_option maxHeartbeats 4000000 in
theorem w_X10_oneIf {Γ : GE} {σ : St} {p1 : Int32} {ρ : Int32} (h : f_X10_oneIf σ p1 = some ρ) : Ct Γ yX10_oneIf cX10_oneIf 1 (some .int) 0 0 [.int p1] σ (some (.int ρ)) σ := by
  refine ct_intro (own := RX10) (L0 := [(0, .int p1)]) (by decide +kernel) rfl (by simp [lg_sl, cat_rf, cat_i, cat_j]) (by simp [lv_args, cat_rf, cat_i, cat_j]) ?_
  intro p l e s m args below meth c hr hlk hin cx
  unfold f_X10_oneIf at h
  refine k_iload_n cx 0 dX10_oneIf_0 rfl rfl ?_
  refine k_if_eq cx 8 dX10_oneIf_1 (by decide) (fun c1 => ?_) (fun c1 => ?_)
  · have h := ite_t h c1
    refine k_iconst cx 0 dX10_oneIf_8 (by decide) ?_
    have h := Option.some.inj h
    exact k_iret cx hr hlk (by rw [← h]) rfl dX10_oneIf_9
  · have h := ite_f h c1
    refine k_iconst cx 1 dX10_oneIf_4 (by decide) ?_
    refine k_goto cx 9 dX10_oneIf_5 (by decide) ?_
    have h := Option.some.inj h
    exact k_iret cx hr hlk (by rw [← h]) rfl dX10_oneIf_9
set_option maxRecDepth 100000 in
set_option maxHeartbeats 4000000 in
theorem w_X1_cuts {Γ : GE} {σ : St} {t : Nat} {ρ : Int32} (hk : hpK σ t = 1) (h : f_X1_cuts σ t = some ρ) : Ct Γ yX1_cuts cX1_cuts 4 (some .int) 1 21 [va_rf (some t)] σ (some (.int ρ)) σ := by
  refine ct_intro (own := RX1) (L0 := [(0, va_rf (some t))]) (by decide +kernel) rfl (by simp [lg_sl, cat_rf, cat_i, cat_j]) (by simp [lv_args, cat_rf, cat_i, cat_j]) ?_
  intro p l e s m args below meth c hr hlk hin cx
  have hk0 := dn_eq hk
  unfold f_X1_cuts at h
  refine k_iconst cx 0 dX1_cuts_0 (by decide) ?_
  refine k_istore_n cx (i := 1) [(1, .int 0), (0, va_rf (some t))] dX1_cuts_1 rfl (by decide) (by simp [cat_rf, cat_i, cat_j]) ?_
  refine k_iconst cx 0 dX1_cuts_2 (by decide) ?_
  refine k_istore_n cx (i := 2) [(2, .int 0), (1, .int 0), (0, va_rf (some t))] dX1_cuts_3 rfl (by decide) (by simp [cat_rf, cat_i, cat_j]) ?_
  obtain ⟨x2, hxx2, h⟩ := bind_ok h
  have Kx2 : Og p l e s m args below meth c Γ 4 1 21 σ (some (.int ρ)) σ 46 [(1, .int x2)] [] σ := by
    refine k_iload_n cx 0 dX1_cuts_46 rfl rfl ?_
    have h := Option.some.inj h
    exact k_iret cx hr hlk (by rw [← h]) rfl dX1_cuts_47
  have KLx2 : ∀ (n : Nat) (v1_4 : Int32) (v2_4 : Int32), LX1_cuts_4 n σ t v1_4 v2_4 = some x2 → Og p l e s m args below meth c Γ 4 1 21 σ (some (.int ρ)) σ 4 [(0, va_rf (some t)), (1, .int v1_4), (2, .int v2_4)] [] σ := by
    intro n
    induction n with
    | zero => intro _ _ h; cases (show (none : Option _) = some x2 from h)
    | succ n ihx2 =>
      intro v1_4 v2_4 h
      rw [LX1_cuts_4] at h
      refine k_iload_n cx 2 dX1_cuts_4 rfl rfl ?_
      refine k_aload_n cx 0 dX1_cuts_5 rfl rfl ?_
      refine q_getI cx fl_X1_35 hk0 dX1_cuts_6 ?_
      refine k_icmp_ge cx 46 dX1_cuts_9 (by decide) (fun c3 => ?_) (fun c3 => ?_)
      · have h := ite_t h c3
        refine k_sub [1] rfl ?_
        obtain rfl := Option.some.inj h
        exact Kx2
      · have h := ite_f h c3
        refine k_aload_n cx 0 dX1_cuts_12 rfl rfl ?_
        refine k_iload_n cx 2 dX1_cuts_13 rfl rfl ?_
        obtain ⟨q4, g5, h⟩ := bind_ok h
        refine k_callV cx iv_X1_56 (ci := 1) rfl (by decide) (w_X1_rowAt (dn_some hk0).2 g5) hk0 (As := [.int v2_4]) rfl rfl ⟨Nat.le_of_ble_eq_true rfl, Nat.le_of_ble_eq_true rfl⟩ (by simp [cat_rf, cat_i, cat_j]) dX1_cuts_14 ?_
        refine k_astore_n cx (i := 3) [(3, va_rf q4), (0, va_rf (some t)), (1, .int v1_4), (2, .int v2_4)] dX1_cuts_17 rfl (by decide) (by simp [cat_rf, cat_i, cat_j]) ?_
        refine k_iload_n cx 2 dX1_cuts_18 rfl rfl ?_
        refine k_aload_n cx 0 dX1_cuts_19 rfl rfl ?_
        obtain ⟨x6, hxx6, h⟩ := bind_ok h
        have Kx6 : Og p l e s m args below meth c Γ 4 1 21 σ (some (.int ρ)) σ 35 [(0, va_rf (some t)), (2, .int v2_4)] [.int x6, .int v1_4] σ := by
          obtain ⟨q12, g13, h⟩ := bind_ok h
          refine k_callSN cx iv_X1_67 (w_X10_oneIf g13) (As := [.int x6]) rfl rfl ⟨Nat.le_of_ble_eq_true rfl, Nat.le_of_ble_eq_true rfl⟩ (by simp [cat_rf, cat_i, cat_j]) dX1_cuts_35 ?_
          refine k_iadd cx dX1_cuts_38 ?_
          refine k_istore_n cx (i := 1) [(1, .int (v1_4 + q12)), (0, va_rf (some t)), (2, .int v2_4)] dX1_cuts_39 rfl (by decide) (by simp [cat_rf, cat_i, cat_j]) ?_
          refine k_iinc cx 2 [(2, .int (v2_4 + 1)), (1, .int (v1_4 + q12)), (0, va_rf (some t))] (v2_4 + 1) dX1_cuts_40 rfl rfl (by decide) (by simp [cat_rf, cat_i, cat_j]) ?_
          refine k_goto cx 4 dX1_cuts_43 (by decide) ?_
          refine k_sub [2, 1, 0] rfl ?_
          exact ihx2 _ _ h
        have h := hxx6
        refine k_ifnull cx 34 dX1_cuts_20 (by decide) (fun c7 => ?_) (fun a11 c7 => ?_)
        · have h := ite_t h c7
          refine k_iconst cx 0 dX1_cuts_34 (by decide) ?_
          refine k_sub [1, 3] rfl ?_
          obtain rfl := Option.some.inj h
          exact Kx6
        · have h := ite_f h (ne_nn c7)
          refine k_aload_n cx 0 dX1_cuts_23 rfl rfl ?_
          obtain ⟨a8, g9, h⟩ := bind_ok h
          refine q_getI cx fl_X1_63 g9 dX1_cuts_24 ?_
          refine k_if_eq cx 34 dX1_cuts_27 (by decide) (fun c10 => ?_) (fun c10 => ?_)
          · have h := ite_t h c10
            refine k_iconst cx 0 dX1_cuts_34 (by decide) ?_
            refine k_sub [1, 3] rfl ?_
            obtain rfl := Option.some.inj h
            exact Kx6
          · have h := ite_f h c10
            refine k_iconst cx 1 dX1_cuts_30 (by decide) ?_
            refine k_goto cx 35 dX1_cuts_31 (by decide) ?_
            refine k_sub [1, 3] rfl ?_
            obtain rfl := Option.some.inj h
            exact Kx6
  refine k_sub [2, 1, 0] rfl ?_
  exact KLx2 FU _ _ hxx2
set_option maxRecDepth 100000 in
set_option maxHeartbeats 4000000 in
theorem w_X1_markedPages {Γ : GE} {σ : St} {t : Nat} {ρ : Int32} (hk : hpK σ t = 1) (h : f_X1_markedPages σ t = some ρ) : Ct Γ yX1_markedPages cX1_markedPages 4 (some .int) 1 21 [va_rf (some t)] σ (some (.int ρ)) σ := by
  refine ct_intro (own := RX1) (L0 := [(0, va_rf (some t))]) (by decide +kernel) rfl (by simp [lg_sl, cat_rf, cat_i, cat_j]) (by simp [lv_args, cat_rf, cat_i, cat_j]) ?_
  intro p l e s m args below meth c hr hlk hin cx
  have hk0 := dn_eq hk
  unfold f_X1_markedPages at h
  refine k_iconst cx 0 dX1_markedPages_0 (by decide) ?_
  refine k_istore_n cx (i := 1) [(1, .int 0), (0, va_rf (some t))] dX1_markedPages_1 rfl (by decide) (by simp [cat_rf, cat_i, cat_j]) ?_
  refine k_iconst cx 0 dX1_markedPages_2 (by decide) ?_
  refine k_istore_n cx (i := 2) [(2, .int 0), (1, .int 0), (0, va_rf (some t))] dX1_markedPages_3 rfl (by decide) (by simp [cat_rf, cat_i, cat_j]) ?_
  obtain ⟨x2, hxx2, h⟩ := bind_ok h
  have Kx2 : Og p l e s m args below meth c Γ 4 1 21 σ (some (.int ρ)) σ 46 [(1, .int x2)] [] σ := by
    refine k_iload_n cx 0 dX1_markedPages_46 rfl rfl ?_
    have h := Option.some.inj h
    exact k_iret cx hr hlk (by rw [← h]) rfl dX1_markedPages_47
  have KLx2 : ∀ (n : Nat) (v1_4 : Int32) (v2_4 : Int32), LX1_markedPages_4 n σ t v1_4 v2_4 = some x2 → Og p l e s m args below meth c Γ 4 1 21 σ (some (.int ρ)) σ 4 [(0, va_rf (some t)), (1, .int v1_4), (2, .int v2_4)] [] σ := by
    intro n
    induction n with
    | zero => intro _ _ h; cases (show (none : Option _) = some x2 from h)
    | succ n ihx2 =>
      intro v1_4 v2_4 h
      rw [LX1_markedPages_4] at h
      refine k_iload_n cx 2 dX1_markedPages_4 rfl rfl ?_
      refine k_aload_n cx 0 dX1_markedPages_5 rfl rfl ?_
      refine q_getI cx fl_X1_42 hk0 dX1_markedPages_6 ?_
      refine k_icmp_ge cx 46 dX1_markedPages_9 (by decide) (fun c3 => ?_) (fun c3 => ?_)
      · have h := ite_t h c3
        refine k_sub [1] rfl ?_
        obtain rfl := Option.some.inj h
        exact Kx2
      · have h := ite_f h c3
        refine k_aload_n cx 0 dX1_markedPages_12 rfl rfl ?_
        refine k_iload_n cx 2 dX1_markedPages_13 rfl rfl ?_
        obtain ⟨q4, g5, h⟩ := bind_ok h
        refine k_callV cx iv_X1_71 (ci := 1) rfl (by decide) (w_X1_pageAt (dn_some hk0).2 g5) hk0 (As := [.int v2_4]) rfl rfl ⟨Nat.le_of_ble_eq_true rfl, Nat.le_of_ble_eq_true rfl⟩ (by simp [cat_rf, cat_i, cat_j]) dX1_markedPages_14 ?_
        refine k_astore_n cx (i := 3) [(3, va_rf q4), (0, va_rf (some t)), (1, .int v1_4), (2, .int v2_4)] dX1_markedPages_17 rfl (by decide) (by simp [cat_rf, cat_i, cat_j]) ?_
        refine k_iload_n cx 2 dX1_markedPages_18 rfl rfl ?_
        refine k_aload_n cx 0 dX1_markedPages_19 rfl rfl ?_
        obtain ⟨x6, hxx6, h⟩ := bind_ok h
        have Kx6 : Og p l e s m args below meth c Γ 4 1 21 σ (some (.int ρ)) σ 35 [(0, va_rf (some t)), (2, .int v2_4)] [.int x6, .int v1_4] σ := by
          obtain ⟨q12, g13, h⟩ := bind_ok h
          refine k_callSN cx iv_X1_67 (w_X10_oneIf g13) (As := [.int x6]) rfl rfl ⟨Nat.le_of_ble_eq_true rfl, Nat.le_of_ble_eq_true rfl⟩ (by simp [cat_rf, cat_i, cat_j]) dX1_markedPages_35 ?_
          refine k_iadd cx dX1_markedPages_38 ?_
          refine k_istore_n cx (i := 1) [(1, .int (v1_4 + q12)), (0, va_rf (some t)), (2, .int v2_4)] dX1_markedPages_39 rfl (by decide) (by simp [cat_rf, cat_i, cat_j]) ?_
          refine k_iinc cx 2 [(2, .int (v2_4 + 1)), (1, .int (v1_4 + q12)), (0, va_rf (some t))] (v2_4 + 1) dX1_markedPages_40 rfl rfl (by decide) (by simp [cat_rf, cat_i, cat_j]) ?_
          refine k_goto cx 4 dX1_markedPages_43 (by decide) ?_
          refine k_sub [2, 1, 0] rfl ?_
          exact ihx2 _ _ h
        have h := hxx6
        refine k_ifnull cx 34 dX1_markedPages_20 (by decide) (fun c7 => ?_) (fun a11 c7 => ?_)
        · have h := ite_t h c7
          refine k_iconst cx 0 dX1_markedPages_34 (by decide) ?_
          refine k_sub [1, 3] rfl ?_
          obtain rfl := Option.some.inj h
          exact Kx6
        · have h := ite_f h (ne_nn c7)
          refine k_aload_n cx 0 dX1_markedPages_23 rfl rfl ?_
          obtain ⟨a8, g9, h⟩ := bind_ok h
          refine q_getI cx fl_X1_75 g9 dX1_markedPages_24 ?_
          refine k_if_eq cx 34 dX1_markedPages_27 (by decide) (fun c10 => ?_) (fun c10 => ?_)
          · have h := ite_t h c10
            refine k_iconst cx 0 dX1_markedPages_34 (by decide) ?_
            refine k_sub [1, 3] rfl ?_
            obtain rfl := Option.some.inj h
            exact Kx6
          · have h := ite_f h c10
            refine k_iconst cx 1 dX1_markedPages_30 (by decide) ?_
            refine k_goto cx 35 dX1_markedPages_31 (by decide) ?_
            refine k_sub [1, 3] rfl ?_
            obtain rfl := Option.some.inj h
            exact Kx6
  refine k_sub [2, 1, 0] rfl ?_
  exact KLx2 FU _ _ hxx2
set_option maxRecDepth 100000 in
set_option maxHeartbeats 4000000 in
theorem w_X1_lastNumber {Γ : GE} {σ : St} {t : Nat} {ρ : Int32} (hk : hpK σ t = 1) (h : f_X1_lastNumber σ t = some ρ) : Ct Γ yX1_lastNumber cX1_lastNumber 2 (some .int) 1 21 [va_rf (some t)] σ (some (.int ρ)) σ := by
  refine ct_intro (own := RX1) (L0 := [(0, va_rf (some t))]) (by decide +kernel) rfl (by simp [lg_sl, cat_rf, cat_i, cat_j]) (by simp [lv_args, cat_rf, cat_i, cat_j]) ?_
  intro p l e s m args below meth c hr hlk hin cx
  have hk0 := dn_eq hk
  unfold f_X1_lastNumber at h
  refine k_aload_n cx 0 dX1_lastNumber_0 rfl rfl ?_
  refine k_aload_n cx 0 dX1_lastNumber_1 rfl rfl ?_
  refine q_getI cx fl_X1_45 hk0 dX1_lastNumber_2 ?_
  refine k_iconst cx 1 dX1_lastNumber_5 (by decide) ?_
  refine k_isub cx dX1_lastNumber_6 ?_
  obtain ⟨q1, g2, h⟩ := bind_ok h
  refine k_callV cx iv_X1_78 (ci := 1) rfl (by decide) (w_X1_spanAt (dn_some hk0).2 g2) hk0 (As := [.int ((hpI σ 39 t) - 1)]) rfl rfl ⟨Nat.le_of_ble_eq_true rfl, Nat.le_of_ble_eq_true rfl⟩ (by simp [cat_rf, cat_i, cat_j]) dX1_lastNumber_7 ?_
  refine k_astore_n cx (i := 1) [(1, va_rf q1), (0, va_rf (some t))] dX1_lastNumber_10 rfl (by decide) (by simp [cat_rf, cat_i, cat_j]) ?_
  refine k_aload_n cx 0 dX1_lastNumber_11 rfl rfl ?_
  refine k_ifnonnull cx 19 dX1_lastNumber_12 (by decide) (fun c3 => ?_) (fun a6 c3 => ?_)
  · have h := ite_t h c3
    refine k_iconst cx 0 dX1_lastNumber_15 (by decide) ?_
    refine k_goto cx 23 dX1_lastNumber_16 (by decide) ?_
    have h := Option.some.inj h
    exact k_iret cx hr hlk (by rw [← h]) rfl dX1_lastNumber_23
  · have h := ite_f h (ne_nn c3)
    refine k_aload_n cx 0 dX1_lastNumber_19 rfl rfl ?_
    obtain ⟨a4, g5, h⟩ := bind_ok h
    refine q_getI cx fl_X1_82 g5 dX1_lastNumber_20 ?_
    have h := Option.some.inj h
    exact k_iret cx hr hlk (by rw [← h]) rfl dX1_lastNumber_23
set_option maxRecDepth 100000 in
set_option maxHeartbeats 4000000 in
theorem w_X6_end {Γ : GE} {σ : St} {t : Nat} {ρ : Int32} (hk : hpK σ t = 6) (h : f_X6_end σ t = some ρ) : Ct Γ yX6_end cX6_end 1 (some .int) 0 0 [va_rf (some t)] σ (some (.int ρ)) σ := by
  refine ct_intro (own := RX6) (L0 := [(0, va_rf (some t))]) (by decide +kernel) rfl (by simp [lg_sl, cat_rf, cat_i, cat_j]) (by simp [lv_args, cat_rf, cat_i, cat_j]) ?_
  intro p l e s m args below meth c hr hlk hin cx
  have hk0 := dn_eq hk
  unfold f_X6_end at h
  refine k_aload_n cx 0 dX6_end_0 rfl rfl ?_
  refine q_getI cx fl_X6_7 hk0 dX6_end_1 ?_
  refine k_aload_n cx 0 dX6_end_4 rfl rfl ?_
  refine q_getI cx fl_X6_13 hk0 dX6_end_5 ?_
  refine k_iadd cx dX6_end_8 ?_
  have h := Option.some.inj h
  exact k_iret cx hr hlk (by rw [← h]) rfl dX6_end_9
set_option maxRecDepth 100000 in
set_option maxHeartbeats 4000000 in
theorem w_X1_widthOf {Γ : GE} {σ : St} {t : Nat} {p1 : Int32} {ρ : Int32} (hk : hpK σ t = 1) (h : f_X1_widthOf σ t p1 = some ρ) : Ct Γ yX1_widthOf cX1_widthOf 3 (some .int) 1 21 [va_rf (some t), .int p1] σ (some (.int ρ)) σ := by
  refine ct_intro (own := RX1) (L0 := [(0, va_rf (some t)), (1, .int p1)]) (by decide +kernel) rfl (by simp [lg_sl, cat_rf, cat_i, cat_j]) (by simp [lv_args, cat_rf, cat_i, cat_j]) ?_
  intro p l e s m args below meth c hr hlk hin cx
  have hk0 := dn_eq hk
  unfold f_X1_widthOf at h
  refine k_aload_n cx 0 dX1_widthOf_0 rfl rfl ?_
  refine k_iload_n cx 1 dX1_widthOf_1 rfl rfl ?_
  obtain ⟨q1, g2, h⟩ := bind_ok h
  refine k_callV cx iv_X1_56 (ci := 1) rfl (by decide) (w_X1_rowAt (dn_some hk0).2 g2) hk0 (As := [.int p1]) rfl rfl ⟨Nat.le_of_ble_eq_true rfl, Nat.le_of_ble_eq_true rfl⟩ (by simp [cat_rf, cat_i, cat_j]) dX1_widthOf_2 ?_
  refine k_astore_n cx (i := 2) [(2, va_rf q1), (0, va_rf (some t)), (1, .int p1)] dX1_widthOf_5 rfl (by decide) (by simp [cat_rf, cat_i, cat_j]) ?_
  refine k_aload_n cx 0 dX1_widthOf_6 rfl rfl ?_
  refine k_ifnonnull cx 14 dX1_widthOf_7 (by decide) (fun c3 => ?_) (fun a8 c3 => ?_)
  · have h := ite_t h c3
    refine k_iconst cx 0 dX1_widthOf_10 (by decide) ?_
    refine k_goto cx 18 dX1_widthOf_11 (by decide) ?_
    have h := Option.some.inj h
    exact k_iret cx hr hlk (by rw [← h]) rfl dX1_widthOf_18
  · have h := ite_f h (ne_nn c3)
    refine k_aload_n cx 0 dX1_widthOf_14 rfl rfl ?_
    obtain ⟨a4, g5, h⟩ := bind_ok h
    obtain ⟨q6, g7, h⟩ := bind_ok h
    refine k_callV cx iv_X1_193 (ci := 6) rfl (by decide) (w_X6_end (dn_some g5).2 g7) g5 (As := []) rfl rfl ⟨Nat.le_of_ble_eq_true rfl, Nat.le_of_ble_eq_true rfl⟩ (by simp [cat_rf, cat_i, cat_j]) dX1_widthOf_15 ?_
    have h := Option.some.inj h
    exact k_iret cx hr hlk (by rw [← h]) rfl dX1_widthOf_18
set_option maxRecDepth 100000 in
set_option maxHeartbeats 4000000 in
theorem w_X1_greatestWidth {Γ : GE} {σ : St} {t : Nat} {p1 : Int32} {p2 : Int32} {ρ : Int32} (hk : hpK σ t = 1) (h : f_X1_greatestWidth σ t p1 p2 = some ρ) : Ct Γ yX1_greatestWidth cX1_greatestWidth 5 (some .int) 2 43 [va_rf (some t), .int p1, .int p2] σ (some (.int ρ)) σ := by
  refine ct_intro (own := RX1) (L0 := [(0, va_rf (some t)), (1, .int p1), (2, .int p2)]) (by decide +kernel) rfl (by simp [lg_sl, cat_rf, cat_i, cat_j]) (by simp [lv_args, cat_rf, cat_i, cat_j]) ?_
  intro p l e s m args below meth c hr hlk hin cx
  have hk0 := dn_eq hk
  unfold f_X1_greatestWidth at h
  refine k_iconst cx 0 dX1_greatestWidth_0 (by decide) ?_
  refine k_istore_n cx (i := 3) [(3, .int 0), (0, va_rf (some t)), (1, .int p1), (2, .int p2)] dX1_greatestWidth_1 rfl (by decide) (by simp [cat_rf, cat_i, cat_j]) ?_
  refine k_iload_n cx 2 dX1_greatestWidth_2 rfl rfl ?_
  refine k_istore cx [(4, .int p1), (3, .int 0), (0, va_rf (some t)), (1, .int p1), (2, .int p2)] dX1_greatestWidth_3 (by decide) (by simp [cat_rf, cat_i, cat_j]) ?_
  obtain ⟨x2, hxx2, h⟩ := bind_ok h
  have Kx2 : Og p l e s m args below meth c Γ 5 2 43 σ (some (.int ρ)) σ 30 [(3, .int x2)] [] σ := by
    refine k_iload_n cx 0 dX1_greatestWidth_30 rfl rfl ?_
    have h := Option.some.inj h
    exact k_iret cx hr hlk (by rw [← h]) rfl dX1_greatestWidth_31
  have KLx2 : ∀ (n : Nat) (v3_5 : Int32) (v4_5 : Int32), LX1_greatestWidth_5 n σ t p1 p2 v3_5 v4_5 = some x2 → Og p l e s m args below meth c Γ 5 2 43 σ (some (.int ρ)) σ 5 [(0, va_rf (some t)), (1, .int p1), (2, .int p2), (3, .int v3_5), (4, .int v4_5)] [] σ := by
    intro n
    induction n with
    | zero => intro _ _ h; cases (show (none : Option _) = some x2 from h)
    | succ n ihx2 =>
      intro v3_5 v4_5 h
      rw [LX1_greatestWidth_5] at h
      refine k_iload cx 4 dX1_greatestWidth_5 rfl ?_
      refine k_iload_n cx 1 dX1_greatestWidth_7 rfl rfl ?_
      refine k_iload_n cx 2 dX1_greatestWidth_8 rfl rfl ?_
      refine k_iadd cx dX1_greatestWidth_9 ?_
      refine k_icmp_ge cx 30 dX1_greatestWidth_10 (by decide) (fun c3 => ?_) (fun c3 => ?_)
      · have h := ite_t h c3
        refine k_sub [3] rfl ?_
        obtain rfl := Option.some.inj h
        exact Kx2
      · have h := ite_f h c3
        refine k_iload_n cx 3 dX1_greatestWidth_13 rfl rfl ?_
        refine k_aload_n cx 0 dX1_greatestWidth_14 rfl rfl ?_
        refine k_iload cx 4 dX1_greatestWidth_15 rfl ?_
        obtain ⟨q4, g5, h⟩ := bind_ok h
        refine k_callV cx iv_X1_85 (ci := 1) rfl (by decide) (w_X1_widthOf (dn_some hk0).2 g5) hk0 (As := [.int v4_5]) rfl rfl ⟨Nat.le_of_ble_eq_true rfl, Nat.le_of_ble_eq_true rfl⟩ (by simp [cat_rf, cat_i, cat_j]) dX1_greatestWidth_17 ?_
        refine k_max cx mw_X1_89 ⟨Nat.le_of_ble_eq_true rfl, Nat.le_of_ble_eq_true rfl⟩ (by simp [cat_rf, cat_i, cat_j]) dX1_greatestWidth_20 ?_
        refine k_istore_n cx (i := 3) [(3, .int (jmax v3_5 q4)), (0, va_rf (some t)), (1, .int p1), (2, .int p2), (4, .int v4_5)] dX1_greatestWidth_23 rfl (by decide) (by simp [cat_rf, cat_i, cat_j]) ?_
        refine k_iinc cx 4 [(4, .int (v4_5 + 1)), (3, .int (jmax v3_5 q4)), (0, va_rf (some t)), (1, .int p1), (2, .int p2)] (v4_5 + 1) dX1_greatestWidth_24 rfl rfl (by decide) (by simp [cat_rf, cat_i, cat_j]) ?_
        refine k_goto cx 5 dX1_greatestWidth_27 (by decide) ?_
        refine k_sub [2, 3, 4, 1, 0] rfl ?_
        exact ihx2 _ _ h
  refine k_sub [2, 3, 4, 1, 0] rfl ?_
  exact KLx2 FU _ _ hxx2
set_option maxRecDepth 100000 in
set_option maxHeartbeats 4000000 in
theorem w_X5_beginsStanza {Γ : GE} {σ : St} {t : Nat} {p1 : Int32} {ρ : Int32} (hk : hpK σ t = 5) (h : f_X5_beginsStanza σ t p1 = some ρ) : Ct Γ yX5_beginsStanza cX5_beginsStanza 3 (some .boolean) 1 21 [va_rf (some t), .int p1] σ (some (.int ρ)) σ := by
  refine ct_intro (own := RX5) (L0 := [(0, va_rf (some t)), (1, .int p1)]) (by decide +kernel) rfl (by simp [lg_sl, cat_rf, cat_i, cat_j]) (by simp [lv_args, cat_rf, cat_i, cat_j]) ?_
  intro p l e s m args below meth c hr hlk hin cx
  have hk0 := dn_eq hk
  unfold f_X5_beginsStanza at h
  refine k_aload_n cx 0 dX5_beginsStanza_0 rfl rfl ?_
  refine k_iload_n cx 1 dX5_beginsStanza_1 rfl rfl ?_
  refine k_iconst cx 1 dX5_beginsStanza_2 (by decide) ?_
  refine k_isub cx dX5_beginsStanza_3 ?_
  obtain ⟨q1, g2, h⟩ := bind_ok h
  refine k_callV cx iv_X5_32 (ci := 5) rfl (by decide) (w_X5_lineAt (dn_some hk0).2 g2) hk0 (As := [.int (p1 - 1)]) rfl rfl ⟨Nat.le_of_ble_eq_true rfl, Nat.le_of_ble_eq_true rfl⟩ (by simp [cat_rf, cat_i, cat_j]) dX5_beginsStanza_4 ?_
  refine k_astore_n cx (i := 2) [(2, va_rf q1), (0, va_rf (some t)), (1, .int p1)] dX5_beginsStanza_7 rfl (by decide) (by simp [cat_rf, cat_i, cat_j]) ?_
  refine k_aload_n cx 0 dX5_beginsStanza_8 rfl rfl ?_
  refine k_ifnull cx 19 dX5_beginsStanza_9 (by decide) (fun c3 => ?_) (fun a7 c3 => ?_)
  · have h := ite_t h c3
    refine k_iconst cx 1 dX5_beginsStanza_19 (by decide) ?_
    refine k_goto cx 24 dX5_beginsStanza_20 (by decide) ?_
    have h := Option.some.inj h
    exact k_zret cx hr hlk gz_1 (by rw [← h]) rfl dX5_beginsStanza_24
  · have h := ite_f h (ne_nn c3)
    refine k_aload_n cx 0 dX5_beginsStanza_12 rfl rfl ?_
    obtain ⟨a4, g5, h⟩ := bind_ok h
    refine q_getI cx fl_X5_36 g5 dX5_beginsStanza_13 ?_
    refine k_if_eq cx 23 dX5_beginsStanza_16 (by decide) (fun c6 => ?_) (fun c6 => ?_)
    · have h := ite_t h c6
      refine k_iconst cx 0 dX5_beginsStanza_23 (by decide) ?_
      have h := Option.some.inj h
      exact k_zret cx hr hlk gz_0 (by rw [← h]) rfl dX5_beginsStanza_24
    · have h := ite_f h c6
      refine k_iconst cx 1 dX5_beginsStanza_19 (by decide) ?_
      refine k_goto cx 24 dX5_beginsStanza_20 (by decide) ?_
      have h := Option.some.inj h
      exact k_zret cx hr hlk gz_1 (by rw [← h]) rfl dX5_beginsStanza_24
set_option maxRecDepth 100000 in
set_option maxHeartbeats 4000000 in
theorem w_X7_init {Γ : GE} {σ : St} {t : Nat} {ρ : Unit} (hk : hpK σ t = 7) (h : f_X7_init σ t = some ρ) : Ct Γ yX7_init cX7_init 1 none 1 20 [va_rf (some t)] σ none σ := by
  refine ct_intro (own := RX7) (L0 := [(0, va_rf (some t))]) (by decide +kernel) rfl (by simp [lg_sl, cat_rf, cat_i, cat_j]) (by simp [lv_args, cat_rf, cat_i, cat_j]) ?_
  intro p l e s m args below meth c hr hlk hin cx
  have hk0 := dn_eq hk
  unfold f_X7_init at h
  refine k_aload_n cx 0 dX7_init_0 rfl rfl ?_
  refine k_objInit cx oi_X7_1 oi_i oi_c ⟨Nat.le_of_ble_eq_true rfl, Nat.le_of_ble_eq_true rfl⟩ (by simp [cat_rf, cat_i, cat_j]) dX7_init_1 ?_
  have h := Option.some.inj h
  exact k_vret cx hr hlk rfl rfl dX7_init_4
set_option maxRecDepth 100000 in
set_option maxHeartbeats 4000000 in
theorem w_X1_addStanza {Γ : GE} {σ : St} {t : Nat} {p1 : Int32} {ρ : Option Nat × St} (hk : hpK σ t = 1) (h : f_X1_addStanza σ t p1 = some ρ) : Ct Γ yX1_addStanza cX1_addStanza 3 (some (.object "PoemPages$Stanza")) 2 40 [va_rf (some t), .int p1] σ (some (va_rf ρ.1)) ρ.2 := by
  refine ct_intro (own := RX1) (L0 := [(0, va_rf (some t)), (1, .int p1)]) (by decide +kernel) rfl (by simp [lg_sl, cat_rf, cat_i, cat_j]) (by simp [lv_args, cat_rf, cat_i, cat_j]) ?_
  intro p l e s m args below meth c hr hlk hin cx
  have hk0 := dn_eq hk
  unfold f_X1_addStanza at h
  refine k_aload_n cx 0 dX1_addStanza_0 rfl rfl ?_
  refine q_getI cx fl_X1_39 hk0 dX1_addStanza_1 ?_
  obtain ⟨x1, hxx1, Hx1⟩ := sb_ok h
  have Kx1 : ∀ wx1 : Unit, .inr wx1 = x1 → Og p l e s m args below meth c Γ 3 2 40 σ (some (va_rf ρ.1)) ρ.2 19 [] [] σ := by
    intro wx1 hw
    have h := sb_inr hw Hx1
    obtain ⟨σ29, g30, h⟩ := bind_ok h
    refine k_new cx nw_X1_23 g30 dX1_addStanza_19 ?_
    refine k_dup cx (by simp [cat_rf, cat_i, cat_j]) dX1_addStanza_22 ?_
    obtain ⟨a31, g32, h⟩ := bind_ok h
    obtain ⟨q33, g34, h⟩ := bind_ok h
    refine k_callIN cx iv_X1_244 (w_X7_init (dn_some g32).2 g34) (dn_some g32).1 (As := []) rfl rfl ⟨Nat.le_of_ble_eq_true rfl, Nat.le_of_ble_eq_true rfl⟩ (by simp [cat_rf, cat_i, cat_j]) dX1_addStanza_23 ?_
    have h := Option.some.inj h
    exact k_aret cx hr hlk (by rw [← h]) (by rw [← h]) dX1_addStanza_26
  have h := hxx1
  refine k_if_lt cx 19 dX1_addStanza_4 (by decide) (fun c2 => ?_) (fun c2 => ?_)
  · have h := ite_t h c2
    refine k_sub [] rfl ?_
    exact Kx1 _ (Option.some.inj h)
  · have h := ite_f h c2
    refine k_aload_n cx 0 dX1_addStanza_7 rfl rfl ?_
    refine q_getI cx fl_X1_39 hk0 dX1_addStanza_8 ?_
    refine k_aload_n cx 0 dX1_addStanza_11 rfl rfl ?_
    refine q_getR cx fl_X1_25 hk0 dX1_addStanza_12 ?_
    obtain ⟨a3, g4, h⟩ := bind_ok h
    refine k_alen cx (by decide) g4 dX1_addStanza_15 ?_
    refine k_icmp_lt cx 27 dX1_addStanza_16 (by decide) (fun c5 => ?_) (fun c5 => ?_)
    · have h := ite_t h c5
      refine k_aload_n cx 0 dX1_addStanza_27 rfl rfl ?_
      refine q_getR cx fl_X1_25 hk0 dX1_addStanza_28 ?_
      refine k_aload_n cx 0 dX1_addStanza_31 rfl rfl ?_
      refine q_getI cx fl_X1_39 hk0 dX1_addStanza_32 ?_
      obtain ⟨j6, g7, h⟩ := bind_ok h
      refine k_aald cx (by decide) g4 g7 dX1_addStanza_35 ?_
      refine k_astore_n cx (i := 2) [(2, va_rf (hpB σ a3 j6)), (0, va_rf (some t)), (1, .int p1)] dX1_addStanza_36 rfl (by decide) (by simp [cat_rf, cat_i, cat_j]) ?_
      refine k_aload_n cx 0 dX1_addStanza_37 rfl rfl ?_
      obtain ⟨x8, hxx8, h⟩ := bind_ok h
      have Kx8 : Og p l e s m args below meth c Γ 3 2 40 σ (some (va_rf ρ.1)) ρ.2 59 [(0, va_rf (some t)), (1, .int p1), (2, va_rf x8.1)] [] x8.2 := by
        refine k_aload_n cx 0 dX1_addStanza_59 rfl rfl ?_
        refine k_dup cx (by simp [cat_rf, cat_i, cat_j]) dX1_addStanza_60 ?_
        obtain ⟨a25, g26, h⟩ := bind_ok h
        refine q_getI cx fl_X1_39 g26 dX1_addStanza_61 ?_
        refine k_iconst cx 1 dX1_addStanza_64 (by decide) ?_
        refine k_iadd cx dX1_addStanza_65 ?_
        refine q_putI cx pl_X1_39 g26 dX1_addStanza_66 ?_
        refine k_aload_n cx 2 dX1_addStanza_69 rfl rfl ?_
        refine k_iload_n cx 1 dX1_addStanza_70 rfl rfl ?_
        obtain ⟨a27, g28, h⟩ := bind_ok h
        refine q_putI cx pl_X1_127 g28 dX1_addStanza_71 ?_
        refine k_aload_n cx 2 dX1_addStanza_74 rfl rfl ?_
        refine k_aload_n cx 0 dX1_addStanza_75 rfl rfl ?_
        refine q_getI cx fl_X1_35 g26 dX1_addStanza_76 ?_
        refine q_putI cx pl_X1_95 g28 dX1_addStanza_79 ?_
        refine k_aload_n cx 2 dX1_addStanza_82 rfl rfl ?_
        refine k_iconst cx 0 dX1_addStanza_83 (by decide) ?_
        refine q_putI cx pl_X1_96 g28 dX1_addStanza_84 ?_
        refine k_aload_n cx 2 dX1_addStanza_87 rfl rfl ?_
        have h := Option.some.inj h
        have h := sb_ret h Hx1
        exact k_aret cx hr hlk (by rw [← h]) (by rw [← h]) dX1_addStanza_88
      have h := hxx8
      refine k_ifnonnull cx 59 dX1_addStanza_38 (by decide) (fun c9 => ?_) (fun a24 c9 => ?_)
      · have h := ite_t h c9
        obtain ⟨σ10, g11, h⟩ := bind_ok h
        refine k_new cx nw_X1_23 g11 dX1_addStanza_41 ?_
        refine k_dup cx (by simp [cat_rf, cat_i, cat_j]) dX1_addStanza_44 ?_
        obtain ⟨a12, g13, h⟩ := bind_ok h
        obtain ⟨q14, g15, h⟩ := bind_ok h
        refine k_callIN cx iv_X1_244 (w_X7_init (dn_some g13).2 g15) (dn_some g13).1 (As := []) rfl rfl ⟨Nat.le_of_ble_eq_true rfl, Nat.le_of_ble_eq_true rfl⟩ (by simp [cat_rf, cat_i, cat_j]) dX1_addStanza_45 ?_
        refine k_astore_n cx (i := 2) [(2, va_rf (some (hpN σ))), (0, va_rf (some t)), (1, .int p1)] dX1_addStanza_48 rfl (by decide) (by simp [cat_rf, cat_i, cat_j]) ?_
        refine k_aload_n cx 1 dX1_addStanza_49 rfl rfl ?_
        obtain ⟨a16, g17, h⟩ := bind_ok h
        refine q_getR cx fl_X1_25 g17 dX1_addStanza_50 ?_
        refine k_aload_n cx 1 dX1_addStanza_53 rfl rfl ?_
        refine q_getI cx fl_X1_39 g17 dX1_addStanza_54 ?_
        refine k_aload_n cx 0 dX1_addStanza_57 rfl rfl ?_
        obtain ⟨a18, g19, h⟩ := bind_ok h
        obtain ⟨j20, g21, h⟩ := bind_ok h
        obtain ⟨w22, g23, h⟩ := bind_ok h
        refine k_aast cx (by decide) g19 g21 g23 dX1_addStanza_58 ?_
        refine k_sub [1, 2, 0] rfl ?_
        obtain rfl := Option.some.inj h
        exact Kx8
      · have h := ite_f h (ne_nn c9)
        refine k_sub [1, 2, 0] rfl ?_
        obtain rfl := Option.some.inj h
        exact Kx8
    · have h := ite_f h c5
      refine k_sub [] rfl ?_
      exact Kx1 _ (Option.some.inj h)
set_option maxRecDepth 100000 in
set_option maxHeartbeats 4000000 in
theorem w_X1_lastStanza {Γ : GE} {σ : St} {t : Nat} {p1 : Int32} {ρ : Option Nat × St} (hk : hpK σ t = 1) (h : f_X1_lastStanza σ t p1 = some ρ) : Ct Γ yX1_lastStanza cX1_lastStanza 3 (some (.object "PoemPages$Stanza")) 3 62 [va_rf (some t), .int p1] σ (some (va_rf ρ.1)) ρ.2 := by
  refine ct_intro (own := RX1) (L0 := [(0, va_rf (some t)), (1, .int p1)]) (by decide +kernel) rfl (by simp [lg_sl, cat_rf, cat_i, cat_j]) (by simp [lv_args, cat_rf, cat_i, cat_j]) ?_
  intro p l e s m args below meth c hr hlk hin cx
  have hk0 := dn_eq hk
  unfold f_X1_lastStanza at h
  refine k_aload_n cx 0 dX1_lastStanza_0 rfl rfl ?_
  refine k_aload_n cx 0 dX1_lastStanza_1 rfl rfl ?_
  refine q_getI cx fl_X1_39 hk0 dX1_lastStanza_2 ?_
  refine k_iconst cx 1 dX1_lastStanza_5 (by decide) ?_
  refine k_isub cx dX1_lastStanza_6 ?_
  obtain ⟨q1, g2, h⟩ := bind_ok h
  refine k_callV cx iv_X1_159 (ci := 1) rfl (by decide) (w_X1_stanzaAt (dn_some hk0).2 g2) hk0 (As := [.int ((hpI σ 37 t) - 1)]) rfl rfl ⟨Nat.le_of_ble_eq_true rfl, Nat.le_of_ble_eq_true rfl⟩ (by simp [cat_rf, cat_i, cat_j]) dX1_lastStanza_7 ?_
  refine k_astore_n cx (i := 2) [(2, va_rf q1), (0, va_rf (some t)), (1, .int p1)] dX1_lastStanza_10 rfl (by decide) (by simp [cat_rf, cat_i, cat_j]) ?_
  refine k_aload_n cx 0 dX1_lastStanza_11 rfl rfl ?_
  refine k_ifnonnull cx 23 dX1_lastStanza_12 (by decide) (fun c3 => ?_) (fun a6 c3 => ?_)
  · have h := ite_t h c3
    refine k_aload_n cx 1 dX1_lastStanza_15 rfl rfl ?_
    refine k_iload_n cx 2 dX1_lastStanza_16 rfl rfl ?_
    obtain ⟨q4, g5, h⟩ := bind_ok h
    refine k_callV cx iv_X1_120 (ci := 1) rfl (by decide) (w_X1_addStanza (dn_some hk0).2 g5) hk0 (As := [.int p1]) rfl rfl ⟨Nat.le_of_ble_eq_true rfl, Nat.le_of_ble_eq_true rfl⟩ (by simp [cat_rf, cat_i, cat_j]) dX1_lastStanza_17 ?_
    refine k_goto cx 24 dX1_lastStanza_20 (by decide) ?_
    have h := Option.some.inj h
    exact k_aret cx hr hlk (by rw [← h]) (by rw [← h]) dX1_lastStanza_24
  · have h := ite_f h (ne_nn c3)
    refine k_aload_n cx 0 dX1_lastStanza_23 rfl rfl ?_
    have h := Option.some.inj h
    exact k_aret cx hr hlk (by rw [← h]) (by rw [← h]) dX1_lastStanza_24
set_option maxRecDepth 100000 in
set_option maxHeartbeats 4000000 in
theorem w_X3_init {Γ : GE} {σ : St} {t : Nat} {ρ : Unit} (hk : hpK σ t = 3) (h : f_X3_init σ t = some ρ) : Ct Γ yX3_init cX3_init 1 none 1 20 [va_rf (some t)] σ none σ := by
  refine ct_intro (own := RX3) (L0 := [(0, va_rf (some t))]) (by decide +kernel) rfl (by simp [lg_sl, cat_rf, cat_i, cat_j]) (by simp [lv_args, cat_rf, cat_i, cat_j]) ?_
  intro p l e s m args below meth c hr hlk hin cx
  have hk0 := dn_eq hk
  unfold f_X3_init at h
  refine k_aload_n cx 0 dX3_init_0 rfl rfl ?_
  refine k_objInit cx oi_X3_1 oi_i oi_c ⟨Nat.le_of_ble_eq_true rfl, Nat.le_of_ble_eq_true rfl⟩ (by simp [cat_rf, cat_i, cat_j]) dX3_init_1 ?_
  have h := Option.some.inj h
  exact k_vret cx hr hlk rfl rfl dX3_init_4
set_option maxRecDepth 100000 in
set_option maxHeartbeats 4000000 in
theorem w_X1_addSpan {Γ : GE} {σ : St} {t : Nat} {p1 : Option Nat} {p2 : Int32} {ρ : Option Nat × St} (hk : hpK σ t = 1) (h : f_X1_addSpan σ t p1 p2 = some ρ) : Ct Γ yX1_addSpan cX1_addSpan 5 (some (.object "PoemPages$LineSpan")) 2 42 [va_rf (some t), va_rf p1, .int p2] σ (some (va_rf ρ.1)) ρ.2 := by
  refine ct_intro (own := RX1) (L0 := [(0, va_rf (some t)), (1, va_rf p1), (2, .int p2)]) (by decide +kernel) rfl (by simp [lg_sl, cat_rf, cat_i, cat_j]) (by simp [lv_args, cat_rf, cat_i, cat_j]) ?_
  intro p l e s m args below meth c hr hlk hin cx
  have hk0 := dn_eq hk
  unfold f_X1_addSpan at h
  refine k_aload_n cx 0 dX1_addSpan_0 rfl rfl ?_
  obtain ⟨q1, g2, h⟩ := bind_ok h
  refine k_callV cx iv_X1_237 (ci := 1) rfl (by decide) (w_X1_lastNumber (dn_some hk0).2 g2) hk0 (As := []) rfl rfl ⟨Nat.le_of_ble_eq_true rfl, Nat.le_of_ble_eq_true rfl⟩ (by simp [cat_rf, cat_i, cat_j]) dX1_addSpan_1 ?_
  refine k_istore_n cx (i := 3) [(3, .int q1), (0, va_rf (some t)), (1, va_rf p1), (2, .int p2)] dX1_addSpan_4 rfl (by decide) (by simp [cat_rf, cat_i, cat_j]) ?_
  refine k_aload_n cx 1 dX1_addSpan_5 rfl rfl ?_
  refine q_getI cx fl_X1_45 hk0 dX1_addSpan_6 ?_
  obtain ⟨x3, hxx3, Hx3⟩ := sb_ok h
  have Kx3 : ∀ wx3 : Unit, .inr wx3 = x3 → Og p l e s m args below meth c Γ 5 2 42 σ (some (va_rf ρ.1)) ρ.2 24 [] [] σ := by
    intro wx3 hw
    have h := sb_inr hw Hx3
    obtain ⟨σ40, g41, h⟩ := bind_ok h
    refine k_new cx nw_X1_17 g41 dX1_addSpan_24 ?_
    refine k_dup cx (by simp [cat_rf, cat_i, cat_j]) dX1_addSpan_27 ?_
    obtain ⟨a42, g43, h⟩ := bind_ok h
    obtain ⟨q44, g45, h⟩ := bind_ok h
    refine k_callIN cx iv_X1_240 (w_X3_init (dn_some g43).2 g45) (dn_some g43).1 (As := []) rfl rfl ⟨Nat.le_of_ble_eq_true rfl, Nat.le_of_ble_eq_true rfl⟩ (by simp [cat_rf, cat_i, cat_j]) dX1_addSpan_28 ?_
    have h := Option.some.inj h
    exact k_aret cx hr hlk (by rw [← h]) (by rw [← h]) dX1_addSpan_31
  have h := hxx3
  refine k_if_lt cx 24 dX1_addSpan_9 (by decide) (fun c4 => ?_) (fun c4 => ?_)
  · have h := ite_t h c4
    refine k_sub [] rfl ?_
    exact Kx3 _ (Option.some.inj h)
  · have h := ite_f h c4
    refine k_aload_n cx 1 dX1_addSpan_12 rfl rfl ?_
    refine q_getI cx fl_X1_45 hk0 dX1_addSpan_13 ?_
    refine k_aload_n cx 1 dX1_addSpan_16 rfl rfl ?_
    refine q_getR cx fl_X1_19 hk0 dX1_addSpan_17 ?_
    obtain ⟨a5, g6, h⟩ := bind_ok h
    refine k_alen cx (by decide) g6 dX1_addSpan_20 ?_
    refine k_icmp_lt cx 32 dX1_addSpan_21 (by decide) (fun c7 => ?_) (fun c7 => ?_)
    · have h := ite_t h c7
      refine k_aload_n cx 1 dX1_addSpan_32 rfl rfl ?_
      refine q_getR cx fl_X1_19 hk0 dX1_addSpan_33 ?_
      refine k_aload_n cx 1 dX1_addSpan_36 rfl rfl ?_
      refine q_getI cx fl_X1_45 hk0 dX1_addSpan_37 ?_
      obtain ⟨j8, g9, h⟩ := bind_ok h
      refine k_aald cx (by decide) g6 g9 dX1_addSpan_40 ?_
      refine k_astore cx [(4, va_rf (hpB σ a5 j8)), (3, .int q1), (0, va_rf (some t)), (1, va_rf p1), (2, .int p2)] dX1_addSpan_41 (by decide) (by simp [cat_rf, cat_i, cat_j]) ?_
      refine k_aload cx 0 dX1_addSpan_43 rfl ?_
      obtain ⟨x10, hxx10, h⟩ := bind_ok h
      have Kx10 : Og p l e s m args below meth c Γ 5 2 42 σ (some (va_rf ρ.1)) ρ.2 68 [(0, va_rf (some t)), (1, va_rf p1), (2, .int p2), (3, .int q1), (4, va_rf x10.1)] [] x10.2 := by
        refine k_aload_n cx 0 dX1_addSpan_68 rfl rfl ?_
        refine k_dup cx (by simp [cat_rf, cat_i, cat_j]) dX1_addSpan_69 ?_
        obtain ⟨a27, g28, h⟩ := bind_ok h
        refine q_getI cx fl_X1_45 g28 dX1_addSpan_70 ?_
        refine k_iconst cx 1 dX1_addSpan_73 (by decide) ?_
        refine k_iadd cx dX1_addSpan_74 ?_
        refine q_putI cx pl_X1_45 g28 dX1_addSpan_75 ?_
        refine k_aload cx 4 dX1_addSpan_78 rfl ?_
        refine k_aload_n cx 1 dX1_addSpan_80 rfl rfl ?_
        obtain ⟨a29, g30, h⟩ := bind_ok h
        refine q_getI cx fl_X1_241 g30 dX1_addSpan_81 ?_
        obtain ⟨x31, hxx31, h⟩ := bind_ok h
        have Kx31 : Og p l e s m args below meth c Γ 5 2 42 σ (some (va_rf ρ.1)) ρ.2 96 [(0, va_rf (some t)), (3, .int q1), (4, va_rf x10.1)] [.int x31, va_rf x10.1] (stI x10.2 39 a27 ((hpI x10.2 39 a27) + 1)) := by
          obtain ⟨a34, g35, h⟩ := bind_ok h
          obtain ⟨z36, g37, h⟩ := bind_ok h
          refine q_putZ cx pl_X1_174 g35 g37 dX1_addSpan_96 ?_
          refine k_aload cx 2 dX1_addSpan_99 rfl ?_
          refine k_aload cx 2 dX1_addSpan_101 rfl ?_
          refine q_getI cx fl_X1_174 g35 dX1_addSpan_103 ?_
          obtain ⟨x38, hxx38, h⟩ := bind_ok h
          have Kx38 : Og p l e s m args below meth c Γ 5 2 42 σ (some (va_rf ρ.1)) ρ.2 116 [(0, va_rf (some t)), (4, va_rf x10.1)] [.int x38, va_rf x10.1] (stI (stI x10.2 39 a27 ((hpI x10.2 39 a27) + 1)) 96 a34 x31) := by
            refine q_putI cx pl_X1_82 g35 dX1_addSpan_116 ?_
            refine k_aload cx 1 dX1_addSpan_119 rfl ?_
            refine k_aload_n cx 0 dX1_addSpan_121 rfl rfl ?_
            refine q_getI cx fl_X1_39 g28 dX1_addSpan_122 ?_
            refine k_iconst cx 1 dX1_addSpan_125 (by decide) ?_
            refine k_isub cx dX1_addSpan_126 ?_
            refine q_putI cx pl_X1_233 g35 dX1_addSpan_127 ?_
            refine k_aload cx 1 dX1_addSpan_130 rfl ?_
            refine k_aload_n cx 0 dX1_addSpan_132 rfl rfl ?_
            refine q_getI cx fl_X1_35 g28 dX1_addSpan_133 ?_
            refine q_putI cx pl_X1_157 g35 dX1_addSpan_136 ?_
            refine k_aload cx 1 dX1_addSpan_139 rfl ?_
            have h := Option.some.inj h
            have h := sb_ret h Hx3
            exact k_aret cx hr hlk (by rw [← h]) (by rw [← h]) dX1_addSpan_141
          have h := hxx38
          refine k_if_eq cx 113 dX1_addSpan_106 (by decide) (fun c39 => ?_) (fun c39 => ?_)
          · have h := ite_t h c39
            refine k_iload_n cx 1 dX1_addSpan_113 rfl rfl ?_
            refine k_iconst cx 1 dX1_addSpan_114 (by decide) ?_
            refine k_iadd cx dX1_addSpan_115 ?_
            refine k_sub [0, 2] rfl ?_
            obtain rfl := Option.some.inj h
            exact Kx38
          · have h := ite_f h c39
            refine k_iload_n cx 1 dX1_addSpan_109 rfl rfl ?_
            refine k_goto cx 116 dX1_addSpan_110 (by decide) ?_
            refine k_sub [0, 2] rfl ?_
            obtain rfl := Option.some.inj h
            exact Kx38
        have h := hxx31
        refine k_if_eq cx 95 dX1_addSpan_84 (by decide) (fun c32 => ?_) (fun c32 => ?_)
        · have h := ite_t h c32
          refine k_iconst cx 0 dX1_addSpan_95 (by decide) ?_
          refine k_sub [0, 3, 4] rfl ?_
          obtain rfl := Option.some.inj h
          exact Kx31
        · have h := ite_f h c32
          refine k_iload_n cx 2 dX1_addSpan_87 rfl rfl ?_
          refine k_if_eq cx 95 dX1_addSpan_88 (by decide) (fun c33 => ?_) (fun c33 => ?_)
          · have h := ite_t h c33
            refine k_iconst cx 0 dX1_addSpan_95 (by decide) ?_
            refine k_sub [0, 3, 4] rfl ?_
            obtain rfl := Option.some.inj h
            exact Kx31
          · have h := ite_f h c33
            refine k_iconst cx 1 dX1_addSpan_91 (by decide) ?_
            refine k_goto cx 96 dX1_addSpan_92 (by decide) ?_
            refine k_sub [0, 3, 4] rfl ?_
            obtain rfl := Option.some.inj h
            exact Kx31
      have h := hxx10
      refine k_ifnonnull cx 68 dX1_addSpan_45 (by decide) (fun c11 => ?_) (fun a26 c11 => ?_)
      · have h := ite_t h c11
        obtain ⟨σ12, g13, h⟩ := bind_ok h
        refine k_new cx nw_X1_17 g13 dX1_addSpan_48 ?_
        refine k_dup cx (by simp [cat_rf, cat_i, cat_j]) dX1_addSpan_51 ?_
        obtain ⟨a14, g15, h⟩ := bind_ok h
        obtain ⟨q16, g17, h⟩ := bind_ok h
        refine k_callIN cx iv_X1_240 (w_X3_init (dn_some g15).2 g17) (dn_some g15).1 (As := []) rfl rfl ⟨Nat.le_of_ble_eq_true rfl, Nat.le_of_ble_eq_true rfl⟩ (by simp [cat_rf, cat_i, cat_j]) dX1_addSpan_52 ?_
        refine k_astore cx [(4, va_rf (some (hpN σ))), (3, .int q1), (0, va_rf (some t)), (1, va_rf p1), (2, .int p2)] dX1_addSpan_55 (by decide) (by simp [cat_rf, cat_i, cat_j]) ?_
        refine k_aload_n cx 2 dX1_addSpan_57 rfl rfl ?_
        obtain ⟨a18, g19, h⟩ := bind_ok h
        refine q_getR cx fl_X1_19 g19 dX1_addSpan_58 ?_
        refine k_aload_n cx 2 dX1_addSpan_61 rfl rfl ?_
        refine q_getI cx fl_X1_45 g19 dX1_addSpan_62 ?_
        refine k_aload cx 0 dX1_addSpan_65 rfl ?_
        obtain ⟨a20, g21, h⟩ := bind_ok h
        obtain ⟨j22, g23, h⟩ := bind_ok h
        obtain ⟨w24, g25, h⟩ := bind_ok h
        refine k_aast cx (by decide) g21 g23 g25 dX1_addSpan_67 ?_
        refine k_sub [2, 3, 4, 1, 0] rfl ?_
        obtain rfl := Option.some.inj h
        exact Kx10
      · have h := ite_f h (ne_nn c11)
        refine k_sub [2, 3, 4, 1, 0] rfl ?_
        obtain rfl := Option.some.inj h
        exact Kx10
    · have h := ite_f h c7
      refine k_sub [] rfl ?_
      exact Kx3 _ (Option.some.inj h)
set_option maxRecDepth 100000 in
set_option maxHeartbeats 4000000 in
theorem w_X6_init {Γ : GE} {σ : St} {t : Nat} {ρ : Unit} (hk : hpK σ t = 6) (h : f_X6_init σ t = some ρ) : Ct Γ yX6_init cX6_init 1 none 1 20 [va_rf (some t)] σ none σ := by
  refine ct_intro (own := RX6) (L0 := [(0, va_rf (some t))]) (by decide +kernel) rfl (by simp [lg_sl, cat_rf, cat_i, cat_j]) (by simp [lv_args, cat_rf, cat_i, cat_j]) ?_
  intro p l e s m args below meth c hr hlk hin cx
  have hk0 := dn_eq hk
  unfold f_X6_init at h
  refine k_aload_n cx 0 dX6_init_0 rfl rfl ?_
  refine k_objInit cx oi_X6_1 oi_i oi_c ⟨Nat.le_of_ble_eq_true rfl, Nat.le_of_ble_eq_true rfl⟩ (by simp [cat_rf, cat_i, cat_j]) dX6_init_1 ?_
  have h := Option.some.inj h
  exact k_vret cx hr hlk rfl rfl dX6_init_4
set_option maxRecDepth 100000 in
set_option maxHeartbeats 4000000 in
theorem w_X1_addRow {Γ : GE} {σ : St} {t : Nat} {p1 : Int32} {p2 : Int32} {p3 : Int32} {ρ : Option Nat × St} (hk : hpK σ t = 1) (h : f_X1_addRow σ t p1 p2 p3 = some ρ) : Ct Γ yX1_addRow cX1_addRow 7 (some (.object "PoemPages$Row")) 2 40 [va_rf (some t), .int p1, .int p2, .int p3] σ (some (va_rf ρ.1)) ρ.2 := by
  refine ct_intro (own := RX1) (L0 := [(0, va_rf (some t)), (1, .int p1), (2, .int p2), (3, .int p3)]) (by decide +kernel) rfl (by simp [lg_sl, cat_rf, cat_i, cat_j]) (by simp [lv_args, cat_rf, cat_i, cat_j]) ?_
  intro p l e s m args below meth c hr hlk hin cx
  have hk0 := dn_eq hk
  unfold f_X1_addRow at h
  refine k_aload_n cx 0 dX1_addRow_0 rfl rfl ?_
  refine k_aload_n cx 0 dX1_addRow_1 rfl rfl ?_
  refine q_getI cx fl_X1_35 hk0 dX1_addRow_2 ?_
  refine k_iconst cx 1 dX1_addRow_5 (by decide) ?_
  refine k_isub cx dX1_addRow_6 ?_
  obtain ⟨q1, g2, h⟩ := bind_ok h
  refine k_callV cx iv_X1_56 (ci := 1) rfl (by decide) (w_X1_rowAt (dn_some hk0).2 g2) hk0 (As := [.int ((hpI σ 36 t) - 1)]) rfl rfl ⟨Nat.le_of_ble_eq_true rfl, Nat.le_of_ble_eq_true rfl⟩ (by simp [cat_rf, cat_i, cat_j]) dX1_addRow_7 ?_
  refine k_astore cx [(4, va_rf q1), (0, va_rf (some t)), (1, .int p1), (2, .int p2), (3, .int p3)] dX1_addRow_10 (by decide) (by simp [cat_rf, cat_i, cat_j]) ?_
  refine k_aload cx 0 dX1_addRow_12 rfl ?_
  obtain ⟨x3, hxx3, h⟩ := bind_ok h
  have Kx3 : Og p l e s m args below meth c Γ 7 2 40 σ (some (va_rf ρ.1)) ρ.2 37 [(0, va_rf (some t)), (1, .int p1), (2, .int p2), (3, .int p3)] [.int x3] σ := by
    refine k_istore cx [(5, .int x3), (0, va_rf (some t)), (1, .int p1), (2, .int p2), (3, .int p3)] dX1_addRow_37 (by decide) (by simp [cat_rf, cat_i, cat_j]) ?_
    refine k_aload_n cx 1 dX1_addRow_39 rfl rfl ?_
    refine q_getI cx fl_X1_35 hk0 dX1_addRow_40 ?_
    obtain ⟨x9, hxx9, Hx9⟩ := sb_ok h
    have Kx9 : ∀ wx9 : Unit, .inr wx9 = x9 → Og p l e s m args below meth c Γ 7 2 40 σ (some (va_rf ρ.1)) ρ.2 58 [] [] σ := by
      intro wx9 hw
      have h := sb_inr hw Hx9
      obtain ⟨σ37, g38, h⟩ := bind_ok h
      refine k_new cx nw_X1_9 g38 dX1_addRow_58 ?_
      refine k_dup cx (by simp [cat_rf, cat_i, cat_j]) dX1_addRow_61 ?_
      obtain ⟨a39, g40, h⟩ := bind_ok h
      obtain ⟨q41, g42, h⟩ := bind_ok h
      refine k_callIN cx iv_X1_236 (w_X6_init (dn_some g40).2 g42) (dn_some g40).1 (As := []) rfl rfl ⟨Nat.le_of_ble_eq_true rfl, Nat.le_of_ble_eq_true rfl⟩ (by simp [cat_rf, cat_i, cat_j]) dX1_addRow_62 ?_
      have h := Option.some.inj h
      exact k_aret cx hr hlk (by rw [← h]) (by rw [← h]) dX1_addRow_65
    have h := hxx9
    refine k_if_lt cx 58 dX1_addRow_43 (by decide) (fun c10 => ?_) (fun c10 => ?_)
    · have h := ite_t h c10
      refine k_sub [] rfl ?_
      exact Kx9 _ (Option.some.inj h)
    · have h := ite_f h c10
      refine k_aload_n cx 1 dX1_addRow_46 rfl rfl ?_
      refine q_getI cx fl_X1_35 hk0 dX1_addRow_47 ?_
      refine k_aload_n cx 1 dX1_addRow_50 rfl rfl ?_
      refine q_getR cx fl_X1_11 hk0 dX1_addRow_51 ?_
      obtain ⟨a11, g12, h⟩ := bind_ok h
      refine k_alen cx (by decide) g12 dX1_addRow_54 ?_
      refine k_icmp_lt cx 66 dX1_addRow_55 (by decide) (fun c13 => ?_) (fun c13 => ?_)
      · have h := ite_t h c13
        refine k_aload_n cx 1 dX1_addRow_66 rfl rfl ?_
        refine q_getR cx fl_X1_11 hk0 dX1_addRow_67 ?_
        refine k_aload_n cx 1 dX1_addRow_70 rfl rfl ?_
        refine q_getI cx fl_X1_35 hk0 dX1_addRow_71 ?_
        obtain ⟨j14, g15, h⟩ := bind_ok h
        refine k_aald cx (by decide) g12 g15 dX1_addRow_74 ?_
        refine k_astore cx [(6, va_rf (hpB σ a11 j14)), (5, .int x3), (0, va_rf (some t)), (1, .int p1), (2, .int p2), (3, .int p3)] dX1_addRow_75 (by decide) (by simp [cat_rf, cat_i, cat_j]) ?_
        refine k_aload cx 0 dX1_addRow_77 rfl ?_
        obtain ⟨x16, hxx16, h⟩ := bind_ok h
        have Kx16 : Og p l e s m args below meth c Γ 7 2 40 σ (some (va_rf ρ.1)) ρ.2 102 [(0, va_rf (some t)), (1, .int p1), (2, .int p2), (3, .int p3), (5, .int x3), (6, va_rf x16.1)] [] x16.2 := by
          refine k_aload_n cx 0 dX1_addRow_102 rfl rfl ?_
          refine k_dup cx (by simp [cat_rf, cat_i, cat_j]) dX1_addRow_103 ?_
          obtain ⟨a33, g34, h⟩ := bind_ok h
          refine q_getI cx fl_X1_35 g34 dX1_addRow_104 ?_
          refine k_iconst cx 1 dX1_addRow_107 (by decide) ?_
          refine k_iadd cx dX1_addRow_108 ?_
          refine q_putI cx pl_X1_35 g34 dX1_addRow_109 ?_
          refine k_aload cx 5 dX1_addRow_112 rfl ?_
          refine k_iload_n cx 1 dX1_addRow_114 rfl rfl ?_
          obtain ⟨a35, g36, h⟩ := bind_ok h
          refine q_putI cx pl_X1_197 g36 dX1_addRow_115 ?_
          refine k_aload cx 5 dX1_addRow_118 rfl ?_
          refine k_iload cx 4 dX1_addRow_120 rfl ?_
          refine q_putI cx pl_X1_214 g36 dX1_addRow_122 ?_
          refine k_aload cx 5 dX1_addRow_125 rfl ?_
          refine k_iload_n cx 2 dX1_addRow_127 rfl rfl ?_
          refine q_putI cx pl_X1_204 g36 dX1_addRow_128 ?_
          refine k_aload cx 5 dX1_addRow_131 rfl ?_
          refine k_iload_n cx 3 dX1_addRow_133 rfl rfl ?_
          refine q_putI cx pl_X1_207 g36 dX1_addRow_134 ?_
          refine k_aload cx 5 dX1_addRow_137 rfl ?_
          refine k_iconst cx 0 dX1_addRow_139 (by decide) ?_
          refine q_putI cx pl_X1_190 g36 dX1_addRow_140 ?_
          refine k_aload cx 5 dX1_addRow_143 rfl ?_
          refine k_iconst cx 0 dX1_addRow_145 (by decide) ?_
          refine q_putI cx pl_X1_181 g36 dX1_addRow_146 ?_
          refine k_aload cx 5 dX1_addRow_149 rfl ?_
          refine k_iconst cx 0 dX1_addRow_151 (by decide) ?_
          refine q_putZ cx pl_X1_63 g36 gz_0 dX1_addRow_152 ?_
          refine k_aload cx 5 dX1_addRow_155 rfl ?_
          have h := Option.some.inj h
          have h := sb_ret h Hx9
          exact k_aret cx hr hlk (by rw [← h]) (by rw [← h]) dX1_addRow_157
        have h := hxx16
        refine k_ifnonnull cx 102 dX1_addRow_79 (by decide) (fun c17 => ?_) (fun a32 c17 => ?_)
        · have h := ite_t h c17
          obtain ⟨σ18, g19, h⟩ := bind_ok h
          refine k_new cx nw_X1_9 g19 dX1_addRow_82 ?_
          refine k_dup cx (by simp [cat_rf, cat_i, cat_j]) dX1_addRow_85 ?_
          obtain ⟨a20, g21, h⟩ := bind_ok h
          obtain ⟨q22, g23, h⟩ := bind_ok h
          refine k_callIN cx iv_X1_236 (w_X6_init (dn_some g21).2 g23) (dn_some g21).1 (As := []) rfl rfl ⟨Nat.le_of_ble_eq_true rfl, Nat.le_of_ble_eq_true rfl⟩ (by simp [cat_rf, cat_i, cat_j]) dX1_addRow_86 ?_
          refine k_astore cx [(6, va_rf (some (hpN σ))), (5, .int x3), (0, va_rf (some t)), (1, .int p1), (2, .int p2), (3, .int p3)] dX1_addRow_89 (by decide) (by simp [cat_rf, cat_i, cat_j]) ?_
          refine k_aload_n cx 2 dX1_addRow_91 rfl rfl ?_
          obtain ⟨a24, g25, h⟩ := bind_ok h
          refine q_getR cx fl_X1_11 g25 dX1_addRow_92 ?_
          refine k_aload_n cx 2 dX1_addRow_95 rfl rfl ?_
          refine q_getI cx fl_X1_35 g25 dX1_addRow_96 ?_
          refine k_aload cx 0 dX1_addRow_99 rfl ?_
          obtain ⟨a26, g27, h⟩ := bind_ok h
          obtain ⟨j28, g29, h⟩ := bind_ok h
          obtain ⟨w30, g31, h⟩ := bind_ok h
          refine k_aast cx (by decide) g27 g29 g31 dX1_addRow_101 ?_
          refine k_sub [2, 3, 4, 5, 1, 0] rfl ?_
          obtain rfl := Option.some.inj h
          exact Kx16
        · have h := ite_f h (ne_nn c17)
          refine k_sub [2, 3, 4, 5, 1, 0] rfl ?_
          obtain rfl := Option.some.inj h
          exact Kx16
      · have h := ite_f h c13
        refine k_sub [] rfl ?_
        exact Kx9 _ (Option.some.inj h)
  have h := hxx3
  refine k_ifnull cx 36 dX1_addRow_14 (by decide) (fun c4 => ?_) (fun a8 c4 => ?_)
  · have h := ite_t h c4
    refine k_iconst cx 0 dX1_addRow_36 (by decide) ?_
    refine k_sub [1, 2, 3, 4] rfl ?_
    obtain rfl := Option.some.inj h
    exact Kx3
  · have h := ite_f h (ne_nn c4)
    refine k_aload cx 0 dX1_addRow_17 rfl ?_
    obtain ⟨a5, g6, h⟩ := bind_ok h
    refine q_getI cx fl_X1_197 g6 dX1_addRow_19 ?_
    refine k_iload_n cx 2 dX1_addRow_22 rfl rfl ?_
    refine k_icmp_ne cx 36 dX1_addRow_23 (by decide) (fun c7 => ?_) (fun c7 => ?_)
    · have h := ite_t h c7
      refine k_iconst cx 0 dX1_addRow_36 (by decide) ?_
      refine k_sub [1, 2, 3, 4] rfl ?_
      obtain rfl := Option.some.inj h
      exact Kx3
    · have h := ite_f h c7
      refine k_aload cx 0 dX1_addRow_26 rfl ?_
      refine q_getI cx fl_X1_214 g6 dX1_addRow_28 ?_
      refine k_iconst cx 1 dX1_addRow_31 (by decide) ?_
      refine k_iadd cx dX1_addRow_32 ?_
      refine k_goto cx 37 dX1_addRow_33 (by decide) ?_
      refine k_sub [1, 2, 3, 4] rfl ?_
      obtain rfl := Option.some.inj h
      exact Kx3
set_option maxRecDepth 100000 in
set_option maxHeartbeats 4000000 in
theorem w_X1_addFirstRow {Γ : GE} {σ : St} {t : Nat} {p1 : Option Nat} {p2 : Int32} {p3 : Option Nat} {p4 : Option Nat} {p5 : Int32} {ρ : Option Nat × St} (hk : hpK σ t = 1) (h : f_X1_addFirstRow σ t p1 p2 p3 p4 p5 = some ρ) : Ct Γ yX1_addFirstRow cX1_addFirstRow 8 (some (.object "PoemPages$Row")) 3 66 [va_rf (some t), va_rf p1, .int p2, va_rf p3, va_rf p4, .int p5] σ (some (va_rf ρ.1)) ρ.2 := by
  refine ct_intro (own := RX1) (L0 := [(0, va_rf (some t)), (1, va_rf p1), (2, .int p2), (3, va_rf p3), (4, va_rf p4), (5, .int p5)]) (by decide +kernel) rfl (by simp [lg_sl, cat_rf, cat_i, cat_j]) (by simp [lv_args, cat_rf, cat_i, cat_j]) ?_
  intro p l e s m args below meth c hr hlk hin cx
  have hk0 := dn_eq hk
  unfold f_X1_addFirstRow at h
  refine k_aload_n cx 3 dX1_addFirstRow_0 rfl rfl ?_
  obtain ⟨a1, g2, h⟩ := bind_ok h
  refine q_getI cx fl_X1_174 g2 dX1_addFirstRow_1 ?_
  obtain ⟨x3, hxx3, h⟩ := bind_ok h
  have Kx3 : Og p l e s m args below meth c Γ 8 3 66 σ (some (va_rf ρ.1)) ρ.2 33 [(0, va_rf (some t)), (2, .int p2), (3, va_rf p3), (5, .int p5)] [.int x3] σ := by
    refine k_istore cx [(6, .int x3), (0, va_rf (some t)), (2, .int p2), (3, va_rf p3), (5, .int p5)] dX1_addFirstRow_33 (by decide) (by simp [cat_rf, cat_i, cat_j]) ?_
    refine k_aload_n cx 1 dX1_addFirstRow_35 rfl rfl ?_
    refine k_iload_n cx 2 dX1_addFirstRow_36 rfl rfl ?_
    refine k_iload cx 0 dX1_addFirstRow_37 rfl ?_
    refine k_iload cx 4 dX1_addFirstRow_39 rfl ?_
    refine k_bipush cx 6 dX1_addFirstRow_41 (by decide) ?_
    refine k_isub cx dX1_addFirstRow_43 ?_
    refine k_min cx mw_X1_150 ⟨Nat.le_of_ble_eq_true rfl, Nat.le_of_ble_eq_true rfl⟩ (by simp [cat_rf, cat_i, cat_j]) dX1_addFirstRow_44 ?_
    refine k_iconst cx 0 dX1_addFirstRow_47 (by decide) ?_
    obtain ⟨q13, g14, h⟩ := bind_ok h
    refine k_callV cx iv_X1_177 (ci := 1) rfl (by decide) (w_X1_addRow (dn_some hk0).2 g14) hk0 (As := [.int p2, .int (jmin x3 (p5 - 6)), .int 0]) rfl rfl ⟨Nat.le_of_ble_eq_true rfl, Nat.le_of_ble_eq_true rfl⟩ (by simp [cat_rf, cat_i, cat_j]) dX1_addFirstRow_48 ?_
    refine k_astore cx [(7, va_rf q13.1), (6, .int x3), (0, va_rf (some t)), (2, .int p2), (3, va_rf p3), (5, .int p5)] dX1_addFirstRow_51 (by decide) (by simp [cat_rf, cat_i, cat_j]) ?_
    refine k_aload cx 0 dX1_addFirstRow_53 rfl ?_
    refine k_aload_n cx 4 dX1_addFirstRow_55 rfl rfl ?_
    obtain ⟨a15, g16, h⟩ := bind_ok h
    refine q_getI cx fl_X1_174 g16 dX1_addFirstRow_56 ?_
    obtain ⟨x17, hxx17, h⟩ := bind_ok h
    have Kx17 : Og p l e s m args below meth c Γ 8 3 66 σ (some (va_rf ρ.1)) ρ.2 79 [(7, va_rf q13.1)] [.int x17, va_rf q13.1] q13.2 := by
      obtain ⟨a22, g23, h⟩ := bind_ok h
      refine q_putI cx pl_X1_181 g23 dX1_addFirstRow_79 ?_
      refine k_aload cx 0 dX1_addFirstRow_82 rfl ?_
      have h := Option.some.inj h
      exact k_aret cx hr hlk (by rw [← h]) (by rw [← h]) dX1_addFirstRow_84
    have h := hxx17
    refine k_if_ne cx 78 dX1_addFirstRow_59 (by decide) (fun c18 => ?_) (fun c18 => ?_)
    · have h := ite_t h c18
      refine k_iconst cx 0 dX1_addFirstRow_78 (by decide) ?_
      refine k_sub [0] rfl ?_
      obtain rfl := Option.some.inj h
      exact Kx17
    · have h := ite_f h c18
      refine k_aload_n cx 4 dX1_addFirstRow_62 rfl rfl ?_
      refine q_getI cx fl_X1_82 g16 dX1_addFirstRow_63 ?_
      refine k_iconst cx 5 dX1_addFirstRow_66 (by decide) ?_
      obtain ⟨w19, g20, h⟩ := bind_ok h
      refine k_irem cx dX1_addFirstRow_67 g20 ?_
      refine k_if_ne cx 78 dX1_addFirstRow_68 (by decide) (fun c21 => ?_) (fun c21 => ?_)
      · have h := ite_t h c21
        refine k_iconst cx 0 dX1_addFirstRow_78 (by decide) ?_
        refine k_sub [0] rfl ?_
        obtain rfl := Option.some.inj h
        exact Kx17
      · have h := ite_f h c21
        refine k_aload_n cx 4 dX1_addFirstRow_71 rfl rfl ?_
        refine q_getI cx fl_X1_82 g16 dX1_addFirstRow_72 ?_
        refine k_goto cx 79 dX1_addFirstRow_75 (by decide) ?_
        refine k_sub [0] rfl ?_
        obtain rfl := Option.some.inj h
        exact Kx17
  have h := hxx3
  refine k_if_eq cx 22 dX1_addFirstRow_4 (by decide) (fun c4 => ?_) (fun c4 => ?_)
  · have h := ite_t h c4
    refine k_aload_n cx 1 dX1_addFirstRow_22 rfl rfl ?_
    obtain ⟨a5, g6, h⟩ := bind_ok h
    refine q_getI cx fl_X1_138 g6 dX1_addFirstRow_23 ?_
    refine k_aload cx 4 dX1_addFirstRow_26 rfl ?_
    refine k_iconst cx 2 dX1_addFirstRow_28 (by decide) ?_
    obtain ⟨a7, g8, h⟩ := bind_ok h
    obtain ⟨q9, g10, h⟩ := bind_ok h
    refine k_callV cx iv_X1_143 (ci := 5) rfl (by decide) (w_X5_setting (dn_some g8).2 g10) g8 (As := [.int 2]) rfl rfl ⟨Nat.le_of_ble_eq_true rfl, Nat.le_of_ble_eq_true rfl⟩ (by simp [cat_rf, cat_i, cat_j]) dX1_addFirstRow_29 ?_
    refine k_imul cx dX1_addFirstRow_32 ?_
    refine k_sub [0, 2, 3, 5] rfl ?_
    obtain rfl := Option.some.inj h
    exact Kx3
  · have h := ite_f h c4
    refine k_aload_n cx 0 dX1_addFirstRow_7 rfl rfl ?_
    refine k_aload_n cx 0 dX1_addFirstRow_8 rfl rfl ?_
    refine q_getI cx fl_X1_35 hk0 dX1_addFirstRow_9 ?_
    refine k_iconst cx 1 dX1_addFirstRow_12 (by decide) ?_
    refine k_isub cx dX1_addFirstRow_13 ?_
    obtain ⟨q11, g12, h⟩ := bind_ok h
    refine k_callV cx iv_X1_85 (ci := 1) rfl (by decide) (w_X1_widthOf (dn_some hk0).2 g12) hk0 (As := [.int ((hpI σ 36 t) - 1)]) rfl rfl ⟨Nat.le_of_ble_eq_true rfl, Nat.le_of_ble_eq_true rfl⟩ (by simp [cat_rf, cat_i, cat_j]) dX1_addFirstRow_14 ?_
    refine k_iconst cx 1 dX1_addFirstRow_17 (by decide) ?_
    refine k_iadd cx dX1_addFirstRow_18 ?_
    refine k_goto cx 33 dX1_addFirstRow_19 (by decide) ?_
    refine k_sub [0, 2, 3, 5] rfl ?_
    obtain rfl := Option.some.inj h
    exact Kx3
set_option maxRecDepth 100000 in
set_option maxHeartbeats 4000000 in
theorem w_X9_lengthOf {Γ : GE} {σ : St} {t : Nat} {p1 : Int32} {ρ : Int32} (hk : hpK σ t = 9) (h : f_X9_lengthOf σ t p1 = some ρ) : Ct Γ yX9_lengthOf cX9_lengthOf 2 (some .int) 1 21 [va_rf (some t), .int p1] σ (some (.int ρ)) σ := by
  refine ct_intro (own := RX9) (L0 := [(0, va_rf (some t)), (1, .int p1)]) (by decide +kernel) rfl (by simp [lg_sl, cat_rf, cat_i, cat_j]) (by simp [lv_args, cat_rf, cat_i, cat_j]) ?_
  intro p l e s m args below meth c hr hlk hin cx
  have hk0 := dn_eq hk
  unfold f_X9_lengthOf at h
  refine k_aload_n cx 0 dX9_lengthOf_0 rfl rfl ?_
  refine q_getR cx fl_X9_15 hk0 dX9_lengthOf_1 ?_
  refine k_iload_n cx 1 dX9_lengthOf_4 rfl rfl ?_
  obtain ⟨q1, g2, h⟩ := bind_ok h
  refine k_callSN cx iv_X9_33 (w_X10_element g2) (As := [va_rf (hpR σ 289 t), .int p1]) rfl rfl ⟨Nat.le_of_ble_eq_true rfl, Nat.le_of_ble_eq_true rfl⟩ (by simp [cat_rf, cat_i, cat_j]) dX9_lengthOf_5 ?_
  have h := Option.some.inj h
  exact k_iret cx hr hlk (by rw [← h]) rfl dX9_lengthOf_8
set_option maxRecDepth 100000 in
set_option maxHeartbeats 4000000 in
theorem w_X1_putWord {Γ : GE} {σ : St} {t : Nat} {p1 : Int32} {p2 : Option Nat} {p3 : Int32} {p4 : Int32} {ρ : Option Nat × St} (hk : hpK σ t = 1) (h : f_X1_putWord σ t p1 p2 p3 p4 = some ρ) : Ct Γ yX1_putWord cX1_putWord 8 (some (.object "PoemPages$Row")) 3 66 [va_rf (some t), .int p1, va_rf p2, .int p3, .int p4] σ (some (va_rf ρ.1)) ρ.2 := by
  refine ct_intro (own := RX1) (L0 := [(0, va_rf (some t)), (1, .int p1), (2, va_rf p2), (3, .int p3), (4, .int p4)]) (by decide +kernel) rfl (by simp [lg_sl, cat_rf, cat_i, cat_j]) (by simp [lv_args, cat_rf, cat_i, cat_j]) ?_
  intro p l e s m args below meth c hr hlk hin cx
  have hk0 := dn_eq hk
  unfold f_X1_putWord at h
  refine k_aload_n cx 2 dX1_putWord_0 rfl rfl ?_
  refine k_astore cx [(5, va_rf p2), (0, va_rf (some t)), (1, .int p1), (2, va_rf p2), (3, .int p3), (4, .int p4)] dX1_putWord_1 (by decide) (by simp [cat_rf, cat_i, cat_j]) ?_
  refine k_iload_n cx 2 dX1_putWord_3 rfl rfl ?_
  refine k_istore cx [(6, .int p1), (5, va_rf p2), (0, va_rf (some t)), (1, .int p1), (2, va_rf p2), (3, .int p3), (4, .int p4)] dX1_putWord_4 (by decide) (by simp [cat_rf, cat_i, cat_j]) ?_
  refine k_iconst cx 0 dX1_putWord_6 (by decide) ?_
  refine k_istore cx [(7, .int 0), (6, .int p1), (5, va_rf p2), (0, va_rf (some t)), (1, .int p1), (2, va_rf p2), (3, .int p3), (4, .int p4)] dX1_putWord_7 (by decide) (by simp [cat_rf, cat_i, cat_j]) ?_
  obtain ⟨x2, hxx2, h⟩ := bind_ok h
  have Kx2 : Og p l e s m args below meth c Γ 8 3 66 σ (some (va_rf ρ.1)) ρ.2 87 [(5, va_rf x2.1), (6, .int x2.2.1)] [] x2.2.2 := by
    refine k_aload cx 0 dX1_putWord_87 rfl ?_
    refine k_iload cx 1 dX1_putWord_89 rfl ?_
    obtain ⟨a13, g14, h⟩ := bind_ok h
    refine q_putI cx pl_X1_190 g14 dX1_putWord_91 ?_
    refine k_aload cx 0 dX1_putWord_94 rfl ?_
    have h := Option.some.inj h
    exact k_aret cx hr hlk (by rw [← h]) (by rw [← h]) dX1_putWord_96
  have KLx2 : ∀ (n : Nat) (v5_9 : Option Nat) (v6_9 : Int32) (v7_9 : Int32) (τ9 : St), LX1_putWord_9 n t p3 p4 v5_9 v6_9 v7_9 τ9 = some x2 → Og p l e s m args below meth c Γ 8 3 66 σ (some (va_rf ρ.1)) ρ.2 9 [(0, va_rf (some t)), (3, .int p3), (4, .int p4), (5, va_rf v5_9), (6, .int v6_9), (7, .int v7_9)] [] τ9 := by
    intro n
    induction n with
    | zero => intro _ _ _ _ h; cases (show (none : Option _) = some x2 from h)
    | succ n ihx2 =>
      intro v5_9 v6_9 v7_9 τ9 h
      rw [LX1_putWord_9] at h
      refine k_iload cx 5 dX1_putWord_9 rfl ?_
      refine k_bipush cx 16 dX1_putWord_11 (by decide) ?_
      refine k_icmp_ge cx 87 dX1_putWord_13 (by decide) (fun c3 => ?_) (fun c3 => ?_)
      · have h := ite_t h c3
        refine k_sub [3, 4] rfl ?_
        obtain rfl := Option.some.inj h
        exact Kx2
      · have h := ite_f h c3
        refine k_iload cx 4 dX1_putWord_16 rfl ?_
        refine k_iload cx 2 dX1_putWord_18 rfl ?_
        refine k_aload cx 3 dX1_putWord_20 rfl ?_
        obtain ⟨a4, g5, h⟩ := bind_ok h
        refine q_getI cx fl_X1_204 g5 dX1_putWord_22 ?_
        refine k_isub cx dX1_putWord_25 ?_
        refine k_icmp_le cx 87 dX1_putWord_26 (by decide) (fun c6 => ?_) (fun c6 => ?_)
        · have h := ite_t h c6
          refine k_sub [3, 4] rfl ?_
          obtain rfl := Option.some.inj h
          exact Kx2
        · have h := ite_f h c6
          refine k_aload cx 3 dX1_putWord_29 rfl ?_
          refine k_iload cx 2 dX1_putWord_31 rfl ?_
          refine k_aload cx 3 dX1_putWord_33 rfl ?_
          refine q_getI cx fl_X1_204 g5 dX1_putWord_35 ?_
          refine k_isub cx dX1_putWord_38 ?_
          refine q_putI cx pl_X1_190 g5 dX1_putWord_39 ?_
          refine k_iload cx 4 dX1_putWord_42 rfl ?_
          refine k_aload cx 3 dX1_putWord_44 rfl ?_
          refine q_getI cx fl_X1_190 g5 dX1_putWord_46 ?_
          refine k_isub cx dX1_putWord_49 ?_
          refine k_istore cx [(6, .int (v6_9 - (hpI (stI τ9 198 a4 (p4 - (hpI τ9 196 a4))) 198 a4))), (0, va_rf (some t)), (3, .int p3), (4, .int p4), (5, va_rf v5_9), (7, .int v7_9)] dX1_putWord_50 (by decide) (by simp [cat_rf, cat_i, cat_j]) ?_
          refine k_aload_n cx 1 dX1_putWord_52 rfl rfl ?_
          refine k_aload cx 4 dX1_putWord_53 rfl ?_
          refine q_getI cx fl_X1_197 g5 dX1_putWord_55 ?_
          refine k_iload_n cx 2 dX1_putWord_58 rfl rfl ?_
          refine k_aload cx 4 dX1_putWord_59 rfl ?_
          refine q_getI cx fl_X1_207 g5 dX1_putWord_61 ?_
          refine k_aload cx 4 dX1_putWord_64 rfl ?_
          refine q_getI cx fl_X1_190 g5 dX1_putWord_66 ?_
          refine k_iadd cx dX1_putWord_69 ?_
          obtain ⟨a7, g8, h⟩ := bind_ok h
          obtain ⟨q9, g10, h⟩ := bind_ok h
          refine k_callV cx iv_X1_177 (ci := 1) rfl (by decide) (w_X1_addRow (dn_some g8).2 g10) g8 (As := [.int (hpI (stI τ9 198 a4 (p4 - (hpI τ9 196 a4))) 192 a4), .int p3, .int ((hpI (stI τ9 198 a4 (p4 - (hpI τ9 196 a4))) 197 a4) + (hpI (stI τ9 198 a4 (p4 - (hpI τ9 196 a4))) 198 a4))]) rfl rfl ⟨Nat.le_of_ble_eq_true rfl, Nat.le_of_ble_eq_true rfl⟩ (by simp [cat_rf, cat_i, cat_j]) dX1_putWord_70 ?_
          refine k_astore cx [(5, va_rf q9.1), (6, .int (v6_9 - (hpI (stI τ9 198 a4 (p4 - (hpI τ9 196 a4))) 198 a4))), (0, va_rf (some t)), (3, .int p3), (4, .int p4), (7, .int v7_9)] dX1_putWord_73 (by decide) (by simp [cat_rf, cat_i, cat_j]) ?_
          refine k_aload cx 0 dX1_putWord_75 rfl ?_
          refine k_iconst cx 1 dX1_putWord_77 (by decide) ?_
          obtain ⟨a11, g12, h⟩ := bind_ok h
          refine q_putZ cx pl_X1_63 g12 gz_1 dX1_putWord_78 ?_
          refine k_iinc cx 5 [(7, .int (v7_9 + 1)), (5, va_rf q9.1), (6, .int (v6_9 - (hpI (stI τ9 198 a4 (p4 - (hpI τ9 196 a4))) 198 a4))), (0, va_rf (some t)), (3, .int p3), (4, .int p4)] (v7_9 + 1) dX1_putWord_81 rfl rfl (by decide) (by simp [cat_rf, cat_i, cat_j]) ?_
          refine k_goto cx 9 dX1_putWord_84 (by decide) ?_
          refine k_sub [3, 4, 5, 1, 2, 0] rfl ?_
          exact ihx2 _ _ _ _ h
  refine k_sub [3, 6, 7, 2, 1, 0] rfl ?_
  exact KLx2 FU _ _ _ _ hxx2

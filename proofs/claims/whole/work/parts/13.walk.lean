set_option maxRecDepth 100000 in
set_option maxHeartbeats 4000000 in
theorem w_X11_init {Γ : GE} {σ : St} {t : Nat} {ρ : St} (hk : hpK σ t = 11) (h : f_X11_init σ t = some ρ) : Ct Γ yX11_init cX11_init 1 none 1 20 [va_rf (some t)] σ none ρ := by
  refine ct_intro (own := RX11) (L0 := [(0, va_rf (some t))]) (by decide +kernel) rfl (by simp [lg_sl, cat_rf, cat_i, cat_j]) (by simp [lv_args, cat_rf, cat_i, cat_j]) ?_
  intro p l e s m args below meth c hr hlk hin cx
  have hk0 := dn_eq hk
  unfold f_X11_init at h
  refine k_aload_n cx 0 dX11_init_0 rfl rfl ?_
  refine k_objInit cx oi_X11_1 oi_i oi_c ⟨Nat.le_of_ble_eq_true rfl, Nat.le_of_ble_eq_true rfl⟩ (by simp [cat_rf, cat_i, cat_j]) dX11_init_1 ?_
  refine k_aload_n cx 0 dX11_init_4 rfl rfl ?_
  refine k_sipush cx 2046 dX11_init_5 (by decide) ?_
  obtain ⟨σ1, g2, h⟩ := bind_ok h
  refine k_newarr cx (k := 13) (by decide) g2 ac_int dX11_init_8 ?_
  obtain ⟨a3, g4, h⟩ := bind_ok h
  refine q_putRF cx pl_X11_7 hin g4 dX11_init_10 ?_
  refine k_aload_n cx 0 dX11_init_13 rfl rfl ?_
  refine k_sipush cx 16368 dX11_init_14 (by decide) ?_
  obtain ⟨σ5, g6, h⟩ := bind_ok h
  refine k_newarr cx (k := 13) (by decide) g6 ac_int dX11_init_17 ?_
  obtain ⟨a7, g8, h⟩ := bind_ok h
  refine q_putRF cx pl_X11_13 hin g8 dX11_init_19 ?_
  refine k_aload_n cx 0 dX11_init_22 rfl rfl ?_
  refine k_bipush cx 80 dX11_init_23 (by decide) ?_
  obtain ⟨σ9, g10, h⟩ := bind_ok h
  refine k_newarr cx (k := 13) (by decide) g10 ac_int dX11_init_25 ?_
  obtain ⟨a11, g12, h⟩ := bind_ok h
  refine q_putRF cx pl_X11_16 hin g12 dX11_init_27 ?_
  refine k_aload_n cx 0 dX11_init_30 rfl rfl ?_
  refine k_bipush cx 85 dX11_init_31 (by decide) ?_
  obtain ⟨σ13, g14, h⟩ := bind_ok h
  refine k_newarr cx (k := 13) (by decide) g14 ac_int dX11_init_33 ?_
  obtain ⟨a15, g16, h⟩ := bind_ok h
  refine q_putRF cx pl_X11_19 hin g16 dX11_init_35 ?_
  refine k_aload_n cx 0 dX11_init_38 rfl rfl ?_
  refine k_sipush cx 960 dX11_init_39 (by decide) ?_
  obtain ⟨σ17, g18, h⟩ := bind_ok h
  refine k_newarr cx (k := 13) (by decide) g18 ac_int dX11_init_42 ?_
  obtain ⟨a19, g20, h⟩ := bind_ok h
  refine q_putRF cx pl_X11_22 hin g20 dX11_init_44 ?_
  refine k_aload_n cx 0 dX11_init_47 rfl rfl ?_
  refine k_sipush cx 960 dX11_init_48 (by decide) ?_
  obtain ⟨σ21, g22, h⟩ := bind_ok h
  refine k_newarr cx (k := 13) (by decide) g22 ac_int dX11_init_51 ?_
  obtain ⟨a23, g24, h⟩ := bind_ok h
  refine q_putRF cx pl_X11_25 hin g24 dX11_init_53 ?_
  refine k_aload_n cx 0 dX11_init_56 rfl rfl ?_
  refine k_sipush cx 960 dX11_init_57 (by decide) ?_
  obtain ⟨σ25, g26, h⟩ := bind_ok h
  refine k_newarr cx (k := 13) (by decide) g26 ac_int dX11_init_60 ?_
  obtain ⟨a27, g28, h⟩ := bind_ok h
  refine q_putRF cx pl_X11_28 hin g28 dX11_init_62 ?_
  refine k_aload_n cx 0 dX11_init_65 rfl rfl ?_
  refine k_sipush cx 960 dX11_init_66 (by decide) ?_
  obtain ⟨σ29, g30, h⟩ := bind_ok h
  refine k_newarr cx (k := 13) (by decide) g30 ac_int dX11_init_69 ?_
  obtain ⟨a31, g32, h⟩ := bind_ok h
  refine q_putRF cx pl_X11_31 hin g32 dX11_init_71 ?_
  refine k_aload_n cx 0 dX11_init_74 rfl rfl ?_
  refine k_sipush cx 960 dX11_init_75 (by decide) ?_
  obtain ⟨σ33, g34, h⟩ := bind_ok h
  refine k_newarr cx (k := 13) (by decide) g34 ac_int dX11_init_78 ?_
  obtain ⟨a35, g36, h⟩ := bind_ok h
  refine q_putRF cx pl_X11_34 hin g36 dX11_init_80 ?_
  refine k_aload_n cx 0 dX11_init_83 rfl rfl ?_
  refine k_sipush cx 960 dX11_init_84 (by decide) ?_
  obtain ⟨σ37, g38, h⟩ := bind_ok h
  refine k_newarr cx (k := 13) (by decide) g38 ac_int dX11_init_87 ?_
  obtain ⟨a39, g40, h⟩ := bind_ok h
  refine q_putRF cx pl_X11_37 hin g40 dX11_init_89 ?_
  refine k_aload_n cx 0 dX11_init_92 rfl rfl ?_
  refine k_sipush cx 960 dX11_init_93 (by decide) ?_
  obtain ⟨σ41, g42, h⟩ := bind_ok h
  refine k_newarr cx (k := 13) (by decide) g42 ac_int dX11_init_96 ?_
  obtain ⟨a43, g44, h⟩ := bind_ok h
  refine q_putRF cx pl_X11_40 hin g44 dX11_init_98 ?_
  refine k_aload_n cx 0 dX11_init_101 rfl rfl ?_
  refine k_sipush cx 960 dX11_init_102 (by decide) ?_
  obtain ⟨σ45, g46, h⟩ := bind_ok h
  refine k_newarr cx (k := 13) (by decide) g46 ac_int dX11_init_105 ?_
  obtain ⟨a47, g48, h⟩ := bind_ok h
  refine q_putRF cx pl_X11_43 hin g48 dX11_init_107 ?_
  refine k_aload_n cx 0 dX11_init_110 rfl rfl ?_
  refine k_bipush cx 24 dX11_init_111 (by decide) ?_
  obtain ⟨σ49, g50, h⟩ := bind_ok h
  refine k_newarr cx (k := 13) (by decide) g50 ac_int dX11_init_113 ?_
  obtain ⟨a51, g52, h⟩ := bind_ok h
  refine q_putRF cx pl_X11_46 hin g52 dX11_init_115 ?_
  refine k_aload_n cx 0 dX11_init_118 rfl rfl ?_
  refine k_bipush cx 24 dX11_init_119 (by decide) ?_
  obtain ⟨σ53, g54, h⟩ := bind_ok h
  refine k_newarr cx (k := 13) (by decide) g54 ac_int dX11_init_121 ?_
  obtain ⟨a55, g56, h⟩ := bind_ok h
  refine q_putRF cx pl_X11_49 hin g56 dX11_init_123 ?_
  refine k_aload_n cx 0 dX11_init_126 rfl rfl ?_
  refine k_bipush cx 24 dX11_init_127 (by decide) ?_
  obtain ⟨σ57, g58, h⟩ := bind_ok h
  refine k_newarr cx (k := 13) (by decide) g58 ac_int dX11_init_129 ?_
  obtain ⟨a59, g60, h⟩ := bind_ok h
  refine q_putRF cx pl_X11_52 hin g60 dX11_init_131 ?_
  refine k_aload_n cx 0 dX11_init_134 rfl rfl ?_
  refine k_bipush cx 24 dX11_init_135 (by decide) ?_
  obtain ⟨σ61, g62, h⟩ := bind_ok h
  refine k_newarr cx (k := 13) (by decide) g62 ac_int dX11_init_137 ?_
  obtain ⟨a63, g64, h⟩ := bind_ok h
  refine q_putRF cx pl_X11_55 hin g64 dX11_init_139 ?_
  refine k_aload_n cx 0 dX11_init_142 rfl rfl ?_
  refine q_getR cx fl_X11_7 g64 dX11_init_143 ?_
  refine k_sipush cx 2041 dX11_init_146 (by decide) ?_
  refine k_bipush cx 30 dX11_init_149 (by decide) ?_
  obtain ⟨a65, g66, h⟩ := bind_ok h
  obtain ⟨j67, g68, h⟩ := bind_ok h
  refine k_iast cx g66 g68 dX11_init_151 ?_
  refine k_aload_n cx 0 dX11_init_152 rfl rfl ?_
  refine q_getR cx fl_X11_7 g64 dX11_init_153 ?_
  refine k_sipush cx 2042 dX11_init_156 (by decide) ?_
  refine k_bipush cx 12 dX11_init_159 (by decide) ?_
  obtain ⟨a69, g70, h⟩ := bind_ok h
  obtain ⟨j71, g72, h⟩ := bind_ok h
  refine k_iast cx g70 g72 dX11_init_161 ?_
  refine k_aload_n cx 0 dX11_init_162 rfl rfl ?_
  refine q_getR cx fl_X11_7 g64 dX11_init_163 ?_
  refine k_sipush cx 2043 dX11_init_166 (by decide) ?_
  refine k_iconst cx 2 dX11_init_169 (by decide) ?_
  obtain ⟨a73, g74, h⟩ := bind_ok h
  obtain ⟨j75, g76, h⟩ := bind_ok h
  refine k_iast cx g74 g76 dX11_init_170 ?_
  refine k_aload_n cx 0 dX11_init_171 rfl rfl ?_
  refine q_getR cx fl_X11_7 g64 dX11_init_172 ?_
  refine k_sipush cx 2044 dX11_init_175 (by decide) ?_
  refine k_iconst cx 4 dX11_init_178 (by decide) ?_
  obtain ⟨a77, g78, h⟩ := bind_ok h
  obtain ⟨j79, g80, h⟩ := bind_ok h
  refine k_iast cx g78 g80 dX11_init_179 ?_
  refine k_aload_n cx 0 dX11_init_180 rfl rfl ?_
  refine q_getR cx fl_X11_7 g64 dX11_init_181 ?_
  refine k_sipush cx 2045 dX11_init_184 (by decide) ?_
  refine k_bipush cx 6 dX11_init_187 (by decide) ?_
  obtain ⟨a81, g82, h⟩ := bind_ok h
  obtain ⟨j83, g84, h⟩ := bind_ok h
  refine k_iast cx g82 g84 dX11_init_189 ?_
  have h := Option.some.inj h
  exact k_vret cx hr hlk rfl (by rw [← h]) dX11_init_190
set_option maxRecDepth 100000 in
set_option maxHeartbeats 4000000 in
theorem w_X11_in {Γ : GE} {σ : St} {p1 : Int32} {p2 : Int32} {p3 : Int32} {ρ : Int32} (h : f_X11_in σ p1 p2 p3 = some ρ) : Ct Γ yX11_in cX11_in 3 (some .boolean) 0 0 [.int p1, .int p2, .int p3] σ (some (.int ρ)) σ := by
  refine ct_intro (own := RX11) (L0 := [(0, .int p1), (1, .int p2), (2, .int p3)]) (by decide +kernel) rfl (by simp [lg_sl, cat_rf, cat_i, cat_j]) (by simp [lv_args, cat_rf, cat_i, cat_j]) ?_
  intro p l e s m args below meth c hr hlk hin cx
  unfold f_X11_in at h
  refine k_iload_n cx 0 dX11_in_0 rfl rfl ?_
  refine k_iload_n cx 1 dX11_in_1 rfl rfl ?_
  refine k_icmp_lt cx 14 dX11_in_2 (by decide) (fun c1 => ?_) (fun c1 => ?_)
  · have h := ite_t h c1
    refine k_iconst cx 0 dX11_in_14 (by decide) ?_
    have h := Option.some.inj h
    exact k_zret cx hr hlk gz_0 (by rw [← h]) rfl dX11_in_15
  · have h := ite_f h c1
    refine k_iload_n cx 0 dX11_in_5 rfl rfl ?_
    refine k_iload_n cx 2 dX11_in_6 rfl rfl ?_
    refine k_icmp_gt cx 14 dX11_in_7 (by decide) (fun c2 => ?_) (fun c2 => ?_)
    · have h := ite_t h c2
      refine k_iconst cx 0 dX11_in_14 (by decide) ?_
      have h := Option.some.inj h
      exact k_zret cx hr hlk gz_0 (by rw [← h]) rfl dX11_in_15
    · have h := ite_f h c2
      refine k_iconst cx 1 dX11_in_10 (by decide) ?_
      refine k_goto cx 15 dX11_in_11 (by decide) ?_
      have h := Option.some.inj h
      exact k_zret cx hr hlk gz_1 (by rw [← h]) rfl dX11_in_15
set_option maxRecDepth 100000 in
set_option maxHeartbeats 4000000 in
theorem w_X11_lesser {Γ : GE} {σ : St} {p1 : Int32} {p2 : Int32} {ρ : Int32} (h : f_X11_lesser σ p1 p2 = some ρ) : Ct Γ yX11_lesser cX11_lesser 2 (some .int) 0 0 [.int p1, .int p2] σ (some (.int ρ)) σ := by
  refine ct_intro (own := RX11) (L0 := [(0, .int p1), (1, .int p2)]) (by decide +kernel) rfl (by simp [lg_sl, cat_rf, cat_i, cat_j]) (by simp [lv_args, cat_rf, cat_i, cat_j]) ?_
  intro p l e s m args below meth c hr hlk hin cx
  unfold f_X11_lesser at h
  refine k_iload_n cx 0 dX11_lesser_0 rfl rfl ?_
  refine k_iload_n cx 1 dX11_lesser_1 rfl rfl ?_
  refine k_icmp_ge cx 9 dX11_lesser_2 (by decide) (fun c1 => ?_) (fun c1 => ?_)
  · have h := ite_t h c1
    refine k_iload_n cx 1 dX11_lesser_9 rfl rfl ?_
    have h := Option.some.inj h
    exact k_iret cx hr hlk (by rw [← h]) rfl dX11_lesser_10
  · have h := ite_f h c1
    refine k_iload_n cx 0 dX11_lesser_5 rfl rfl ?_
    refine k_goto cx 10 dX11_lesser_6 (by decide) ?_
    have h := Option.some.inj h
    exact k_iret cx hr hlk (by rw [← h]) rfl dX11_lesser_10
set_option maxRecDepth 100000 in
set_option maxHeartbeats 4000000 in
theorem w_X11_keeps {Γ : GE} {σ : St} {t : Nat} {ρ : St} (hk : hpK σ t = 11) (h : f_X11_keeps σ t = some ρ) : Ct Γ yX11_keeps cX11_keeps 2 none 0 0 [va_rf (some t)] σ none ρ := by
  refine ct_intro (own := RX11) (L0 := [(0, va_rf (some t))]) (by decide +kernel) rfl (by simp [lg_sl, cat_rf, cat_i, cat_j]) (by simp [lv_args, cat_rf, cat_i, cat_j]) ?_
  intro p l e s m args below meth c hr hlk hin cx
  have hk0 := dn_eq hk
  unfold f_X11_keeps at h
  refine k_aload_n cx 0 dX11_keeps_0 rfl rfl ?_
  refine q_getI cx fl_X11_58 hk0 dX11_keeps_1 ?_
  refine k_bipush cx 8 dX11_keeps_4 (by decide) ?_
  obtain ⟨x1, hxx1, h⟩ := bind_ok h
  have Kx1 : Og p l e s m args below meth c Γ 2 0 0 σ none ρ 50 [(0, va_rf (some t))] [] x1 := by
    refine k_iconst cx 0 dX11_keeps_50 (by decide) ?_
    refine k_istore_n cx (i := 1) [(1, .int 0), (0, va_rf (some t))] dX11_keeps_51 rfl (by decide) (by simp [cat_rf, cat_i, cat_j]) ?_
    obtain ⟨x19, hxx19, h⟩ := bind_ok h
    have Kx19 : Og p l e s m args below meth c Γ 2 0 0 σ none ρ 86 [(0, va_rf (some t))] [] x19 := by
      refine k_aload_n cx 0 dX11_keeps_86 rfl rfl ?_
      refine k_dup cx (by simp [cat_rf, cat_i, cat_j]) dX11_keeps_87 ?_
      obtain ⟨a31, g32, h⟩ := bind_ok h
      refine q_getI cx fl_X11_58 g32 dX11_keeps_88 ?_
      refine k_iconst cx 1 dX11_keeps_91 (by decide) ?_
      refine k_iadd cx dX11_keeps_92 ?_
      refine q_putI cx pl_X11_58 g32 dX11_keeps_93 ?_
      have h := Option.some.inj h
      exact k_vret cx hr hlk rfl (by rw [← h]) dX11_keeps_96
    have KLx19 : ∀ (n : Nat) (v1 : Int32) (τ : St), LX11_keeps_52 n t v1 τ = some x19 → Og p l e s m args below meth c Γ 2 0 0 σ none ρ 52 [(0, va_rf (some t)), (1, .int v1)] [] τ := by
      intro n
      induction n with
      | zero => intro _ _ h; cases (show (none : Option _) = some x19 from h)
      | succ n ihx19 =>
        intro v1 τ h
        rw [LX11_keeps_52] at h
        refine k_iload_n cx 1 dX11_keeps_52 rfl rfl ?_
        refine k_sipush cx 2046 dX11_keeps_53 (by decide) ?_
        refine k_icmp_ge cx 86 dX11_keeps_56 (by decide) (fun c20 => ?_) (fun c20 => ?_)
        · have h := ite_t h c20
          refine k_sub [0] rfl ?_
          obtain rfl := Option.some.inj h
          exact Kx19
        · have h := ite_f h c20
          refine k_aload_n cx 0 dX11_keeps_59 rfl rfl ?_
          obtain ⟨a21, g22, h⟩ := bind_ok h
          refine q_getR cx fl_X11_13 g22 dX11_keeps_60 ?_
          refine k_sipush cx 2046 dX11_keeps_63 (by decide) ?_
          refine k_aload_n cx 0 dX11_keeps_66 rfl rfl ?_
          refine q_getI cx fl_X11_58 g22 dX11_keeps_67 ?_
          refine k_imul cx dX11_keeps_70 ?_
          refine k_iload_n cx 1 dX11_keeps_71 rfl rfl ?_
          refine k_iadd cx dX11_keeps_72 ?_
          refine k_aload_n cx 0 dX11_keeps_73 rfl rfl ?_
          refine q_getR cx fl_X11_7 g22 dX11_keeps_74 ?_
          refine k_iload_n cx 1 dX11_keeps_77 rfl rfl ?_
          obtain ⟨a23, g24, h⟩ := bind_ok h
          obtain ⟨j25, g26, h⟩ := bind_ok h
          refine k_iald cx g24 g26 dX11_keeps_78 ?_
          obtain ⟨a27, g28, h⟩ := bind_ok h
          obtain ⟨j29, g30, h⟩ := bind_ok h
          refine k_iast cx g28 g30 dX11_keeps_79 ?_
          refine k_iinc cx 1 [(1, .int (v1 + 1)), (0, va_rf (some t))] (v1 + 1) dX11_keeps_80 rfl rfl (by decide) (by simp [cat_rf, cat_i, cat_j]) ?_
          refine k_goto cx 52 dX11_keeps_83 (by decide) ?_
          refine k_sub [1, 0] rfl ?_
          exact ihx19 _ _ h
    refine k_sub [1, 0] rfl ?_
    exact KLx19 FU _ _ hxx19
  have h := hxx1
  refine k_icmp_ne cx 50 dX11_keeps_6 (by decide) (fun c2 => ?_) (fun c2 => ?_)
  · have h := ite_t h c2
    obtain rfl := Option.some.inj h
    exact Kx1
  · have h := ite_f h c2
    refine k_iconst cx 0 dX11_keeps_9 (by decide) ?_
    refine k_istore_n cx (i := 1) [(1, .int 0), (0, va_rf (some t))] dX11_keeps_10 rfl (by decide) (by simp [cat_rf, cat_i, cat_j]) ?_
    obtain ⟨x4, hxx4, h⟩ := bind_ok h
    have Kx4 : Og p l e s m args below meth c Γ 2 0 0 σ none ρ 40 [(0, va_rf (some t))] [] x4 := by
      refine k_aload_n cx 0 dX11_keeps_40 rfl rfl ?_
      refine k_dup cx (by simp [cat_rf, cat_i, cat_j]) dX11_keeps_41 ?_
      obtain ⟨a16, g17, h⟩ := bind_ok h
      refine q_getI cx fl_X11_58 g17 dX11_keeps_42 ?_
      refine k_iconst cx 1 dX11_keeps_45 (by decide) ?_
      refine k_isub cx dX11_keeps_46 ?_
      refine q_putI cx pl_X11_58 g17 dX11_keeps_47 ?_
      obtain rfl := Option.some.inj h
      exact Kx1
    have KLx4 : ∀ (n : Nat) (v1 : Int32) (τ : St), LX11_keeps_11 n t v1 τ = some x4 → Og p l e s m args below meth c Γ 2 0 0 σ none ρ 11 [(0, va_rf (some t)), (1, .int v1)] [] τ := by
      intro n
      induction n with
      | zero => intro _ _ h; cases (show (none : Option _) = some x4 from h)
      | succ n ihx4 =>
        intro v1 τ h
        rw [LX11_keeps_11] at h
        refine k_iload_n cx 1 dX11_keeps_11 rfl rfl ?_
        refine k_sipush cx 14322 dX11_keeps_12 (by decide) ?_
        refine k_icmp_ge cx 40 dX11_keeps_15 (by decide) (fun c5 => ?_) (fun c5 => ?_)
        · have h := ite_t h c5
          refine k_sub [0] rfl ?_
          obtain rfl := Option.some.inj h
          exact Kx4
        · have h := ite_f h c5
          refine k_aload_n cx 0 dX11_keeps_18 rfl rfl ?_
          obtain ⟨a6, g7, h⟩ := bind_ok h
          refine q_getR cx fl_X11_13 g7 dX11_keeps_19 ?_
          refine k_iload_n cx 1 dX11_keeps_22 rfl rfl ?_
          refine k_aload_n cx 0 dX11_keeps_23 rfl rfl ?_
          refine q_getR cx fl_X11_13 g7 dX11_keeps_24 ?_
          refine k_iload_n cx 1 dX11_keeps_27 rfl rfl ?_
          refine k_sipush cx 2046 dX11_keeps_28 (by decide) ?_
          refine k_iadd cx dX11_keeps_31 ?_
          obtain ⟨a8, g9, h⟩ := bind_ok h
          obtain ⟨j10, g11, h⟩ := bind_ok h
          refine k_iald cx g9 g11 dX11_keeps_32 ?_
          obtain ⟨a12, g13, h⟩ := bind_ok h
          obtain ⟨j14, g15, h⟩ := bind_ok h
          refine k_iast cx g13 g15 dX11_keeps_33 ?_
          refine k_iinc cx 1 [(1, .int (v1 + 1)), (0, va_rf (some t))] (v1 + 1) dX11_keeps_34 rfl rfl (by decide) (by simp [cat_rf, cat_i, cat_j]) ?_
          refine k_goto cx 11 dX11_keeps_37 (by decide) ?_
          refine k_sub [1, 0] rfl ?_
          exact ihx4 _ _ h
    refine k_sub [1, 0] rfl ?_
    exact KLx4 FU _ _ hxx4
set_option maxRecDepth 100000 in
set_option maxHeartbeats 4000000 in
theorem w_X11_undo {Γ : GE} {σ : St} {t : Nat} {ρ : Int32 × St} (hk : hpK σ t = 11) (h : f_X11_undo σ t = some ρ) : Ct Γ yX11_undo cX11_undo 2 (some .int) 0 0 [va_rf (some t)] σ (some (.int ρ.1)) ρ.2 := by
  refine ct_intro (own := RX11) (L0 := [(0, va_rf (some t))]) (by decide +kernel) rfl (by simp [lg_sl, cat_rf, cat_i, cat_j]) (by simp [lv_args, cat_rf, cat_i, cat_j]) ?_
  intro p l e s m args below meth c hr hlk hin cx
  have hk0 := dn_eq hk
  unfold f_X11_undo at h
  refine k_aload_n cx 0 dX11_undo_0 rfl rfl ?_
  refine q_getI cx fl_X11_58 hk0 dX11_undo_1 ?_
  refine k_if_ne cx 10 dX11_undo_4 (by decide) (fun c1 => ?_) (fun c1 => ?_)
  · have h := ite_t h c1
    refine k_aload_n cx 0 dX11_undo_10 rfl rfl ?_
    refine k_dup cx (by simp [cat_rf, cat_i, cat_j]) dX11_undo_11 ?_
    refine q_getI cx fl_X11_58 hk0 dX11_undo_12 ?_
    refine k_iconst cx 1 dX11_undo_15 (by decide) ?_
    refine k_isub cx dX11_undo_16 ?_
    refine q_putI cx pl_X11_58 hk0 dX11_undo_17 ?_
    refine k_iconst cx 0 dX11_undo_20 (by decide) ?_
    refine k_istore_n cx (i := 1) [(1, .int 0), (0, va_rf (some t))] dX11_undo_21 rfl (by decide) (by simp [cat_rf, cat_i, cat_j]) ?_
    obtain ⟨x3, hxx3, h⟩ := bind_ok h
    have Kx3 : Og p l e s m args below meth c Γ 2 0 0 σ (some (.int ρ.1)) ρ.2 56 [(0, va_rf (some t))] [] x3 := by
      refine k_aload_n cx 0 dX11_undo_56 rfl rfl ?_
      obtain ⟨a15, g16, h⟩ := bind_ok h
      refine q_getI cx fl_X11_58 g16 dX11_undo_57 ?_
      have h := Option.some.inj h
      exact k_iret cx hr hlk (by rw [← h]) (by rw [← h]) dX11_undo_60
    have KLx3 : ∀ (n : Nat) (v1 : Int32) (τ : St), LX11_undo_22 n t v1 τ = some x3 → Og p l e s m args below meth c Γ 2 0 0 σ (some (.int ρ.1)) ρ.2 22 [(0, va_rf (some t)), (1, .int v1)] [] τ := by
      intro n
      induction n with
      | zero => intro _ _ h; cases (show (none : Option _) = some x3 from h)
      | succ n ihx3 =>
        intro v1 τ h
        rw [LX11_undo_22] at h
        refine k_iload_n cx 1 dX11_undo_22 rfl rfl ?_
        refine k_sipush cx 2046 dX11_undo_23 (by decide) ?_
        refine k_icmp_ge cx 56 dX11_undo_26 (by decide) (fun c4 => ?_) (fun c4 => ?_)
        · have h := ite_t h c4
          refine k_sub [0] rfl ?_
          obtain rfl := Option.some.inj h
          exact Kx3
        · have h := ite_f h c4
          refine k_aload_n cx 0 dX11_undo_29 rfl rfl ?_
          obtain ⟨a5, g6, h⟩ := bind_ok h
          refine q_getR cx fl_X11_7 g6 dX11_undo_30 ?_
          refine k_iload_n cx 1 dX11_undo_33 rfl rfl ?_
          refine k_aload_n cx 0 dX11_undo_34 rfl rfl ?_
          refine q_getR cx fl_X11_13 g6 dX11_undo_35 ?_
          refine k_sipush cx 2046 dX11_undo_38 (by decide) ?_
          refine k_aload_n cx 0 dX11_undo_41 rfl rfl ?_
          refine q_getI cx fl_X11_58 g6 dX11_undo_42 ?_
          refine k_imul cx dX11_undo_45 ?_
          refine k_iload_n cx 1 dX11_undo_46 rfl rfl ?_
          refine k_iadd cx dX11_undo_47 ?_
          obtain ⟨a7, g8, h⟩ := bind_ok h
          obtain ⟨j9, g10, h⟩ := bind_ok h
          refine k_iald cx g8 g10 dX11_undo_48 ?_
          obtain ⟨a11, g12, h⟩ := bind_ok h
          obtain ⟨j13, g14, h⟩ := bind_ok h
          refine k_iast cx g12 g14 dX11_undo_49 ?_
          refine k_iinc cx 1 [(1, .int (v1 + 1)), (0, va_rf (some t))] (v1 + 1) dX11_undo_50 rfl rfl (by decide) (by simp [cat_rf, cat_i, cat_j]) ?_
          refine k_goto cx 22 dX11_undo_53 (by decide) ?_
          refine k_sub [1, 0] rfl ?_
          exact ihx3 _ _ h
    refine k_sub [1, 0] rfl ?_
    exact KLx3 FU _ _ hxx3
  · have h := ite_f h c1
    refine k_bipush cx (-3) dX11_undo_7 (by decide) ?_
    have h := Option.some.inj h
    exact k_iret cx hr hlk (by rw [← h]) (by rw [← h]) dX11_undo_9
set_option maxRecDepth 100000 in
set_option maxHeartbeats 4000000 in
theorem w_X11_type {Γ : GE} {σ : St} {t : Nat} {p1 : Int32} {ρ : Int32 × St} (hk : hpK σ t = 11) (h : f_X11_type σ t p1 = some ρ) : Ct Γ yX11_type cX11_type 2 (some .int) 1 22 [va_rf (some t), .int p1] σ (some (.int ρ.1)) ρ.2 := by
  refine ct_intro (own := RX11) (L0 := [(0, va_rf (some t)), (1, .int p1)]) (by decide +kernel) rfl (by simp [lg_sl, cat_rf, cat_i, cat_j]) (by simp [lv_args, cat_rf, cat_i, cat_j]) ?_
  intro p l e s m args below meth c hr hlk hin cx
  have hk0 := dn_eq hk
  unfold f_X11_type at h
  refine k_iload_n cx 1 dX11_type_0 rfl rfl ?_
  refine k_iconst cx 0 dX11_type_1 (by decide) ?_
  refine k_bipush cx 127 dX11_type_2 (by decide) ?_
  obtain ⟨q1, g2, h⟩ := bind_ok h
  refine k_callS cx iv_X11_62 (w_X11_in g2) (As := [.int p1, .int 0, .int 127]) rfl rfl ⟨Nat.le_of_ble_eq_true rfl, Nat.le_of_ble_eq_true rfl⟩ (by simp [cat_rf, cat_i, cat_j]) dX11_type_4 ?_
  refine k_if_ne cx 13 dX11_type_7 (by decide) (fun c3 => ?_) (fun c3 => ?_)
  · have h := ite_t h c3
    refine k_aload_n cx 0 dX11_type_13 rfl rfl ?_
    refine q_getI cx fl_X11_66 hk0 dX11_type_14 ?_
    refine k_bipush cx 80 dX11_type_17 (by decide) ?_
    refine k_icmp_ne cx 25 dX11_type_19 (by decide) (fun c4 => ?_) (fun c4 => ?_)
    · have h := ite_t h c4
      refine k_aload_n cx 0 dX11_type_25 rfl rfl ?_
      refine q_getR cx fl_X11_16 hk0 dX11_type_26 ?_
      refine k_aload_n cx 0 dX11_type_29 rfl rfl ?_
      refine q_getI cx fl_X11_66 hk0 dX11_type_30 ?_
      refine k_iload_n cx 1 dX11_type_33 rfl rfl ?_
      obtain ⟨a5, g6, h⟩ := bind_ok h
      obtain ⟨j7, g8, h⟩ := bind_ok h
      refine k_iast cx g6 g8 dX11_type_34 ?_
      refine k_aload_n cx 0 dX11_type_35 rfl rfl ?_
      refine k_dup cx (by simp [cat_rf, cat_i, cat_j]) dX11_type_36 ?_
      refine q_getI cx fl_X11_66 hk0 dX11_type_37 ?_
      refine k_iconst cx 1 dX11_type_40 (by decide) ?_
      refine k_iadd cx dX11_type_41 ?_
      refine q_putI cx pl_X11_66 hk0 dX11_type_42 ?_
      refine k_aload_n cx 0 dX11_type_45 rfl rfl ?_
      refine q_getI cx fl_X11_66 hk0 dX11_type_46 ?_
      have h := Option.some.inj h
      exact k_iret cx hr hlk (by rw [← h]) (by rw [← h]) dX11_type_49
    · have h := ite_f h c4
      refine k_bipush cx (-4) dX11_type_22 (by decide) ?_
      have h := Option.some.inj h
      exact k_iret cx hr hlk (by rw [← h]) (by rw [← h]) dX11_type_24
  · have h := ite_f h c3
    refine k_bipush cx (-2) dX11_type_10 (by decide) ?_
    have h := Option.some.inj h
    exact k_iret cx hr hlk (by rw [← h]) (by rw [← h]) dX11_type_12
set_option maxRecDepth 100000 in
set_option maxHeartbeats 4000000 in
theorem w_X11_clear {Γ : GE} {σ : St} {t : Nat} {ρ : Int32 × St} (hk : hpK σ t = 11) (h : f_X11_clear σ t = some ρ) : Ct Γ yX11_clear cX11_clear 2 (some .int) 0 0 [va_rf (some t)] σ (some (.int ρ.1)) ρ.2 := by
  refine ct_intro (own := RX11) (L0 := [(0, va_rf (some t))]) (by decide +kernel) rfl (by simp [lg_sl, cat_rf, cat_i, cat_j]) (by simp [lv_args, cat_rf, cat_i, cat_j]) ?_
  intro p l e s m args below meth c hr hlk hin cx
  have hk0 := dn_eq hk
  unfold f_X11_clear at h
  refine k_aload_n cx 0 dX11_clear_0 rfl rfl ?_
  refine q_getI cx fl_X11_66 hk0 dX11_clear_1 ?_
  refine k_istore_n cx (i := 1) [(1, .int (hpI σ 356 t)), (0, va_rf (some t))] dX11_clear_4 rfl (by decide) (by simp [cat_rf, cat_i, cat_j]) ?_
  refine k_aload_n cx 1 dX11_clear_5 rfl rfl ?_
  refine k_iconst cx 0 dX11_clear_6 (by decide) ?_
  refine q_putI cx pl_X11_66 hk0 dX11_clear_7 ?_
  refine k_iload_n cx 0 dX11_clear_10 rfl rfl ?_
  have h := Option.some.inj h
  exact k_iret cx hr hlk (by rw [← h]) (by rw [← h]) dX11_clear_11
set_option maxRecDepth 100000 in
set_option maxHeartbeats 4000000 in
theorem w_X11_next {Γ : GE} {σ : St} {t : Nat} {ρ : Int32} (hk : hpK σ t = 11) (h : f_X11_next σ t = some ρ) : Ct Γ yX11_next cX11_next 1 (some .int) 0 0 [va_rf (some t)] σ (some (.int ρ)) σ := by
  refine ct_intro (own := RX11) (L0 := [(0, va_rf (some t))]) (by decide +kernel) rfl (by simp [lg_sl, cat_rf, cat_i, cat_j]) (by simp [lv_args, cat_rf, cat_i, cat_j]) ?_
  intro p l e s m args below meth c hr hlk hin cx
  have hk0 := dn_eq hk
  unfold f_X11_next at h
  refine k_aload_n cx 0 dX11_next_0 rfl rfl ?_
  refine q_getI cx fl_X11_69 hk0 dX11_next_1 ?_
  refine k_aload_n cx 0 dX11_next_4 rfl rfl ?_
  refine q_getI cx fl_X11_66 hk0 dX11_next_5 ?_
  refine k_icmp_ge cx 23 dX11_next_8 (by decide) (fun c1 => ?_) (fun c1 => ?_)
  · have h := ite_t h c1
    refine k_iconst cx (-1) dX11_next_23 (by decide) ?_
    have h := Option.some.inj h
    exact k_iret cx hr hlk (by rw [← h]) rfl dX11_next_24
  · have h := ite_f h c1
    refine k_aload_n cx 0 dX11_next_11 rfl rfl ?_
    refine q_getR cx fl_X11_16 hk0 dX11_next_12 ?_
    refine k_aload_n cx 0 dX11_next_15 rfl rfl ?_
    refine q_getI cx fl_X11_69 hk0 dX11_next_16 ?_
    obtain ⟨a2, g3, h⟩ := bind_ok h
    obtain ⟨j4, g5, h⟩ := bind_ok h
    refine k_iald cx g3 g5 dX11_next_19 ?_
    refine k_goto cx 24 dX11_next_20 (by decide) ?_
    have h := Option.some.inj h
    exact k_iret cx hr hlk (by rw [← h]) rfl dX11_next_24
set_option maxRecDepth 100000 in
set_option maxHeartbeats 4000000 in
theorem w_X11_isLetter {Γ : GE} {σ : St} {t : Nat} {ρ : Int32} (hk : hpK σ t = 11) (h : f_X11_isLetter σ t = some ρ) : Ct Γ yX11_isLetter cX11_isLetter 1 (some .boolean) 1 22 [va_rf (some t)] σ (some (.int ρ)) σ := by
  refine ct_intro (own := RX11) (L0 := [(0, va_rf (some t))]) (by decide +kernel) rfl (by simp [lg_sl, cat_rf, cat_i, cat_j]) (by simp [lv_args, cat_rf, cat_i, cat_j]) ?_
  intro p l e s m args below meth c hr hlk hin cx
  have hk0 := dn_eq hk
  unfold f_X11_isLetter at h
  refine k_aload_n cx 0 dX11_isLetter_0 rfl rfl ?_
  obtain ⟨q1, g2, h⟩ := bind_ok h
  refine k_callV cx iv_X11_72 (ci := 11) rfl (by decide) (w_X11_next (dn_some hk0).2 g2) hk0 (As := []) rfl rfl ⟨Nat.le_of_ble_eq_true rfl, Nat.le_of_ble_eq_true rfl⟩ (by simp [cat_rf, cat_i, cat_j]) dX11_isLetter_1 ?_
  refine k_bipush cx 97 dX11_isLetter_4 (by decide) ?_
  refine k_bipush cx 122 dX11_isLetter_6 (by decide) ?_
  obtain ⟨q3, g4, h⟩ := bind_ok h
  refine k_callS cx iv_X11_62 (w_X11_in g4) (As := [.int q1, .int 97, .int 122]) rfl rfl ⟨Nat.le_of_ble_eq_true rfl, Nat.le_of_ble_eq_true rfl⟩ (by simp [cat_rf, cat_i, cat_j]) dX11_isLetter_8 ?_
  obtain ⟨z5, g6, h⟩ := bind_ok h
  have h := Option.some.inj h
  exact k_zret cx hr hlk g6 (by rw [← h]) rfl dX11_isLetter_11
set_option maxRecDepth 100000 in
set_option maxHeartbeats 4000000 in
theorem w_X11_skips {Γ : GE} {σ : St} {t : Nat} {ρ : St} (hk : hpK σ t = 11) (h : f_X11_skips σ t = some ρ) : Ct Γ yX11_skips cX11_skips 1 none 1 20 [va_rf (some t)] σ none ρ := by
  refine ct_intro (own := RX11) (L0 := [(0, va_rf (some t))]) (by decide +kernel) rfl (by simp [lg_sl, cat_rf, cat_i, cat_j]) (by simp [lv_args, cat_rf, cat_i, cat_j]) ?_
  intro p l e s m args below meth c hr hlk hin cx
  have hk0 := dn_eq hk
  unfold f_X11_skips at h
  obtain ⟨x2, hxx2, h⟩ := bind_ok h
  have Kx2 : Og p l e s m args below meth c Γ 1 1 20 σ none ρ 22 [] [] x2 := by
    have h := Option.some.inj h
    exact k_vret cx hr hlk rfl (by rw [← h]) dX11_skips_22
  have KLx2 : ∀ (n : Nat) (τ : St), LX11_skips_0 n t τ = some x2 → Og p l e s m args below meth c Γ 1 1 20 σ none ρ 0 [(0, va_rf (some t))] [] τ := by
    intro n
    induction n with
    | zero => intro _ h; cases (show (none : Option _) = some x2 from h)
    | succ n ihx2 =>
      intro τ h
      rw [LX11_skips_0] at h
      refine k_aload_n cx 0 dX11_skips_0 rfl rfl ?_
      obtain ⟨a3, g4, h⟩ := bind_ok h
      obtain ⟨q5, g6, h⟩ := bind_ok h
      refine k_callV cx iv_X11_72 (ci := 11) rfl (by decide) (w_X11_next (dn_some g4).2 g6) g4 (As := []) rfl rfl ⟨Nat.le_of_ble_eq_true rfl, Nat.le_of_ble_eq_true rfl⟩ (by simp [cat_rf, cat_i, cat_j]) dX11_skips_1 ?_
      refine k_bipush cx 32 dX11_skips_4 (by decide) ?_
      refine k_icmp_ne cx 22 dX11_skips_6 (by decide) (fun c7 => ?_) (fun c7 => ?_)
      · have h := ite_t h c7
        refine k_sub [] rfl ?_
        obtain rfl := Option.some.inj h
        exact Kx2
      · have h := ite_f h c7
        refine k_aload_n cx 0 dX11_skips_9 rfl rfl ?_
        refine k_dup cx (by simp [cat_rf, cat_i, cat_j]) dX11_skips_10 ?_
        refine q_getI cx fl_X11_69 g4 dX11_skips_11 ?_
        refine k_iconst cx 1 dX11_skips_14 (by decide) ?_
        refine k_iadd cx dX11_skips_15 ?_
        refine q_putI cx pl_X11_69 g4 dX11_skips_16 ?_
        refine k_goto cx 0 dX11_skips_19 (by decide) ?_
        exact ihx2 _ h
  exact KLx2 FU _ hxx2
set_option maxRecDepth 100000 in
set_option maxHeartbeats 4000000 in
theorem w_X11_takes {Γ : GE} {σ : St} {t : Nat} {p1 : Int32} {ρ : Int32 × St} (hk : hpK σ t = 11) (h : f_X11_takes σ t p1 = some ρ) : Ct Γ yX11_takes cX11_takes 3 (some .boolean) 2 40 [va_rf (some t), .int p1] σ (some (.int ρ.1)) ρ.2 := by
  refine ct_intro (own := RX11) (L0 := [(0, va_rf (some t)), (1, .int p1)]) (by decide +kernel) rfl (by simp [lg_sl, cat_rf, cat_i, cat_j]) (by simp [lv_args, cat_rf, cat_i, cat_j]) ?_
  intro p l e s m args below meth c hr hlk hin cx
  have hk0 := dn_eq hk
  unfold f_X11_takes at h
  refine k_aload_n cx 0 dX11_takes_0 rfl rfl ?_
  obtain ⟨q1, g2, h⟩ := bind_ok h
  refine k_callV cx iv_X11_72 (ci := 11) rfl (by decide) (w_X11_next (dn_some hk0).2 g2) hk0 (As := []) rfl rfl ⟨Nat.le_of_ble_eq_true rfl, Nat.le_of_ble_eq_true rfl⟩ (by simp [cat_rf, cat_i, cat_j]) dX11_takes_1 ?_
  refine k_iload_n cx 1 dX11_takes_4 rfl rfl ?_
  obtain ⟨x3, hxx3, h⟩ := bind_ok h
  have Kx3 : Og p l e s m args below meth c Γ 3 2 40 σ (some (.int ρ.1)) ρ.2 13 [(0, va_rf (some t))] [.int x3] σ := by
    refine k_istore_n cx (i := 2) [(2, .int x3), (0, va_rf (some t))] dX11_takes_13 rfl (by decide) (by simp [cat_rf, cat_i, cat_j]) ?_
    refine k_iload_n cx 0 dX11_takes_14 rfl rfl ?_
    refine k_if_eq cx 32 dX11_takes_15 (by decide) (fun c5 => ?_) (fun c5 => ?_)
    · have h := ite_t h c5
      refine k_iload_n cx 0 dX11_takes_32 rfl rfl ?_
      obtain ⟨z6, g7, h⟩ := bind_ok h
      have h := Option.some.inj h
      exact k_zret cx hr hlk g7 (by rw [← h]) (by rw [← h]) dX11_takes_33
    · have h := ite_f h c5
      refine k_aload_n cx 1 dX11_takes_18 rfl rfl ?_
      refine k_dup cx (by simp [cat_rf, cat_i, cat_j]) dX11_takes_19 ?_
      refine q_getI cx fl_X11_69 hk0 dX11_takes_20 ?_
      refine k_iconst cx 1 dX11_takes_23 (by decide) ?_
      refine k_iadd cx dX11_takes_24 ?_
      refine q_putI cx pl_X11_69 hk0 dX11_takes_25 ?_
      refine k_aload_n cx 1 dX11_takes_28 rfl rfl ?_
      obtain ⟨q8, g9, h⟩ := bind_ok h
      refine k_callV cx iv_X11_76 (ci := 11) rfl (by decide) (w_X11_skips (dn_some hk0).2 g9) hk0 (As := []) rfl rfl ⟨Nat.le_of_ble_eq_true rfl, Nat.le_of_ble_eq_true rfl⟩ (by simp [cat_rf, cat_i, cat_j]) dX11_takes_29 ?_
      refine k_iload_n cx 0 dX11_takes_32 rfl rfl ?_
      obtain ⟨z10, g11, h⟩ := bind_ok h
      have h := Option.some.inj h
      exact k_zret cx hr hlk g11 (by rw [← h]) (by rw [← h]) dX11_takes_33
  have h := hxx3
  refine k_icmp_ne cx 12 dX11_takes_5 (by decide) (fun c4 => ?_) (fun c4 => ?_)
  · have h := ite_t h c4
    refine k_iconst cx 0 dX11_takes_12 (by decide) ?_
    refine k_sub [0] rfl ?_
    obtain rfl := Option.some.inj h
    exact Kx3
  · have h := ite_f h c4
    refine k_iconst cx 1 dX11_takes_8 (by decide) ?_
    refine k_goto cx 13 dX11_takes_9 (by decide) ?_
    refine k_sub [0] rfl ?_
    obtain rfl := Option.some.inj h
    exact Kx3
set_option maxRecDepth 100000 in
set_option maxHeartbeats 4000000 in
theorem w_X11_readsWord {Γ : GE} {σ : St} {t : Nat} {ρ : St} (hk : hpK σ t = 11) (h : f_X11_readsWord σ t = some ρ) : Ct Γ yX11_readsWord cX11_readsWord 2 none 2 42 [va_rf (some t)] σ none ρ := by
  refine ct_intro (own := RX11) (L0 := [(0, va_rf (some t))]) (by decide +kernel) rfl (by simp [lg_sl, cat_rf, cat_i, cat_j]) (by simp [lv_args, cat_rf, cat_i, cat_j]) ?_
  intro p l e s m args below meth c hr hlk hin cx
  have hk0 := dn_eq hk
  unfold f_X11_readsWord at h
  refine k_aload_n cx 0 dX11_readsWord_0 rfl rfl ?_
  refine q_getR cx fl_X11_19 hk0 dX11_readsWord_1 ?_
  refine k_iconst cx 1 dX11_readsWord_4 (by decide) ?_
  obtain ⟨a1, g2, h⟩ := bind_ok h
  obtain ⟨j3, g4, h⟩ := bind_ok h
  refine k_iald cx g2 g4 dX11_readsWord_5 ?_
  obtain ⟨x5, hxx5, h⟩ := bind_ok h
  have Kx5 : Og p l e s m args below meth c Γ 2 2 42 σ none ρ 34 [(0, va_rf (some t))] [] x5 := by
    refine k_iconst cx 0 dX11_readsWord_34 (by decide) ?_
    refine k_istore_n cx (i := 1) [(1, .int 0), (0, va_rf (some t))] dX11_readsWord_35 rfl (by decide) (by simp [cat_rf, cat_i, cat_j]) ?_
    obtain ⟨x22, hxx22, h⟩ := bind_ok h
    have Kx22 : Og p l e s m args below meth c Γ 2 2 42 σ none ρ 92 [(0, va_rf (some t))] [] x22 := by
      refine k_aload_n cx 0 dX11_readsWord_92 rfl rfl ?_
      obtain ⟨a47, g48, h⟩ := bind_ok h
      refine q_getR cx fl_X11_19 g48 dX11_readsWord_93 ?_
      refine k_iconst cx 1 dX11_readsWord_96 (by decide) ?_
      refine k_dup2 cx (by simp [cat_rf, cat_i, cat_j]) (by simp [cat_rf, cat_i, cat_j]) dX11_readsWord_97 ?_
      obtain ⟨a49, g50, h⟩ := bind_ok h
      obtain ⟨j51, g52, h⟩ := bind_ok h
      refine k_iald cx g50 g52 dX11_readsWord_98 ?_
      refine k_iconst cx 1 dX11_readsWord_99 (by decide) ?_
      refine k_iadd cx dX11_readsWord_100 ?_
      obtain ⟨a53, g54, h⟩ := bind_ok h
      obtain ⟨j55, g56, h⟩ := bind_ok h
      refine k_iast cx g54 g56 dX11_readsWord_101 ?_
      refine k_aload_n cx 0 dX11_readsWord_102 rfl rfl ?_
      refine k_aload_n cx 0 dX11_readsWord_103 rfl rfl ?_
      obtain ⟨q57, g58, h⟩ := bind_ok h
      refine k_callV cx iv_X11_79 (ci := 11) rfl (by decide) (w_X11_isLetter (dn_some g48).2 g58) g48 (As := []) rfl rfl ⟨Nat.le_of_ble_eq_true rfl, Nat.le_of_ble_eq_true rfl⟩ (by simp [cat_rf, cat_i, cat_j]) dX11_readsWord_104 ?_
      obtain ⟨x59, hxx59, h⟩ := bind_ok h
      have Kx59 : Og p l e s m args below meth c Γ 2 2 42 σ none ρ 121 [(0, va_rf (some t))] [.int x59, va_rf (some t)] (stA x22 a53 j55 ((hpA x22 a49 j51) + 1)) := by
        refine q_putI cx pl_X11_83 g48 dX11_readsWord_121 ?_
        refine k_aload_n cx 0 dX11_readsWord_124 rfl rfl ?_
        obtain ⟨q61, g62, h⟩ := bind_ok h
        refine k_callV cx iv_X11_76 (ci := 11) rfl (by decide) (w_X11_skips (dn_some g48).2 g62) g48 (As := []) rfl rfl ⟨Nat.le_of_ble_eq_true rfl, Nat.le_of_ble_eq_true rfl⟩ (by simp [cat_rf, cat_i, cat_j]) dX11_readsWord_125 ?_
        have h := Option.some.inj h
        exact k_vret cx hr hlk rfl (by rw [← h]) dX11_readsWord_128
      have h := hxx59
      refine k_if_eq cx 117 dX11_readsWord_107 (by decide) (fun c60 => ?_) (fun c60 => ?_)
      · have h := ite_t h c60
        refine k_aload_n cx 0 dX11_readsWord_117 rfl rfl ?_
        refine q_getI cx fl_X11_83 g48 dX11_readsWord_118 ?_
        obtain rfl := Option.some.inj h
        exact Kx59
      · have h := ite_f h c60
        refine k_aload_n cx 0 dX11_readsWord_110 rfl rfl ?_
        refine q_getI cx fl_X11_69 g48 dX11_readsWord_111 ?_
        refine k_goto cx 121 dX11_readsWord_114 (by decide) ?_
        obtain rfl := Option.some.inj h
        exact Kx59
    have KLx22 : ∀ (n : Nat) (v1 : Int32) (τ : St), LX11_readsWord_36 n t v1 τ = some x22 → Og p l e s m args below meth c Γ 2 2 42 σ none ρ 36 [(0, va_rf (some t)), (1, .int v1)] [] τ := by
      intro n
      induction n with
      | zero => intro _ _ h; cases (show (none : Option _) = some x22 from h)
      | succ n ihx22 =>
        intro v1 τ h
        rw [LX11_readsWord_36] at h
        refine k_aload_n cx 0 dX11_readsWord_36 rfl rfl ?_
        obtain ⟨a23, g24, h⟩ := bind_ok h
        obtain ⟨q25, g26, h⟩ := bind_ok h
        refine k_callV cx iv_X11_79 (ci := 11) rfl (by decide) (w_X11_isLetter (dn_some g24).2 g26) g24 (As := []) rfl rfl ⟨Nat.le_of_ble_eq_true rfl, Nat.le_of_ble_eq_true rfl⟩ (by simp [cat_rf, cat_i, cat_j]) dX11_readsWord_37 ?_
        refine k_if_eq cx 92 dX11_readsWord_40 (by decide) (fun c27 => ?_) (fun c27 => ?_)
        · have h := ite_t h c27
          refine k_sub [0] rfl ?_
          obtain rfl := Option.some.inj h
          exact Kx22
        · have h := ite_f h c27
          refine k_iload_n cx 1 dX11_readsWord_43 rfl rfl ?_
          refine k_bipush cx 16 dX11_readsWord_44 (by decide) ?_
          refine k_icmp_ge cx 92 dX11_readsWord_46 (by decide) (fun c28 => ?_) (fun c28 => ?_)
          · have h := ite_t h c28
            refine k_sub [0] rfl ?_
            obtain rfl := Option.some.inj h
            exact Kx22
          · have h := ite_f h c28
            refine k_aload_n cx 0 dX11_readsWord_49 rfl rfl ?_
            refine q_getR cx fl_X11_19 g24 dX11_readsWord_50 ?_
            refine k_iconst cx 5 dX11_readsWord_53 (by decide) ?_
            refine k_aload_n cx 0 dX11_readsWord_54 rfl rfl ?_
            refine q_getR cx fl_X11_19 g24 dX11_readsWord_55 ?_
            refine k_iconst cx 0 dX11_readsWord_58 (by decide) ?_
            obtain ⟨a29, g30, h⟩ := bind_ok h
            obtain ⟨j31, g32, h⟩ := bind_ok h
            refine k_iald cx g30 g32 dX11_readsWord_59 ?_
            refine k_iadd cx dX11_readsWord_60 ?_
            refine k_aload_n cx 0 dX11_readsWord_61 rfl rfl ?_
            obtain ⟨q33, g34, h⟩ := bind_ok h
            refine k_callV cx iv_X11_72 (ci := 11) rfl (by decide) (w_X11_next (dn_some g24).2 g34) g24 (As := []) rfl rfl ⟨Nat.le_of_ble_eq_true rfl, Nat.le_of_ble_eq_true rfl⟩ (by simp [cat_rf, cat_i, cat_j]) dX11_readsWord_62 ?_
            obtain ⟨a35, g36, h⟩ := bind_ok h
            obtain ⟨j37, g38, h⟩ := bind_ok h
            refine k_iast cx g36 g38 dX11_readsWord_65 ?_
            refine k_aload_n cx 0 dX11_readsWord_66 rfl rfl ?_
            refine q_getR cx fl_X11_19 g24 dX11_readsWord_67 ?_
            refine k_iconst cx 0 dX11_readsWord_70 (by decide) ?_
            refine k_dup2 cx (by simp [cat_rf, cat_i, cat_j]) (by simp [cat_rf, cat_i, cat_j]) dX11_readsWord_71 ?_
            obtain ⟨a39, g40, h⟩ := bind_ok h
            obtain ⟨j41, g42, h⟩ := bind_ok h
            refine k_iald cx g40 g42 dX11_readsWord_72 ?_
            refine k_iconst cx 1 dX11_readsWord_73 (by decide) ?_
            refine k_iadd cx dX11_readsWord_74 ?_
            obtain ⟨a43, g44, h⟩ := bind_ok h
            obtain ⟨j45, g46, h⟩ := bind_ok h
            refine k_iast cx g44 g46 dX11_readsWord_75 ?_
            refine k_iinc cx 1 [(1, .int (v1 + 1)), (0, va_rf (some t))] (v1 + 1) dX11_readsWord_76 rfl rfl (by decide) (by simp [cat_rf, cat_i, cat_j]) ?_
            refine k_aload_n cx 1 dX11_readsWord_79 rfl rfl ?_
            refine k_dup cx (by simp [cat_rf, cat_i, cat_j]) dX11_readsWord_80 ?_
            refine q_getI cx fl_X11_69 g24 dX11_readsWord_81 ?_
            refine k_iconst cx 1 dX11_readsWord_84 (by decide) ?_
            refine k_iadd cx dX11_readsWord_85 ?_
            refine q_putI cx pl_X11_69 g24 dX11_readsWord_86 ?_
            refine k_goto cx 36 dX11_readsWord_89 (by decide) ?_
            refine k_sub [1, 0] rfl ?_
            exact ihx22 _ _ h
    refine k_sub [1, 0] rfl ?_
    exact KLx22 FU _ _ hxx22
  have h := hxx5
  refine k_if_le cx 34 dX11_readsWord_6 (by decide) (fun c6 => ?_) (fun c6 => ?_)
  · have h := ite_t h c6
    obtain rfl := Option.some.inj h
    exact Kx5
  · have h := ite_f h c6
    refine k_aload_n cx 0 dX11_readsWord_9 rfl rfl ?_
    refine q_getR cx fl_X11_19 hk0 dX11_readsWord_10 ?_
    refine k_iconst cx 5 dX11_readsWord_13 (by decide) ?_
    refine k_aload_n cx 0 dX11_readsWord_14 rfl rfl ?_
    refine q_getR cx fl_X11_19 hk0 dX11_readsWord_15 ?_
    refine k_iconst cx 0 dX11_readsWord_18 (by decide) ?_
    obtain ⟨j7, g8, h⟩ := bind_ok h
    refine k_iald cx g2 g8 dX11_readsWord_19 ?_
    refine k_iadd cx dX11_readsWord_20 ?_
    refine k_bipush cx 32 dX11_readsWord_21 (by decide) ?_
    obtain ⟨a9, g10, h⟩ := bind_ok h
    obtain ⟨j11, g12, h⟩ := bind_ok h
    refine k_iast cx g10 g12 dX11_readsWord_23 ?_
    refine k_aload_n cx 0 dX11_readsWord_24 rfl rfl ?_
    refine q_getR cx fl_X11_19 hk0 dX11_readsWord_25 ?_
    refine k_iconst cx 0 dX11_readsWord_28 (by decide) ?_
    refine k_dup2 cx (by simp [cat_rf, cat_i, cat_j]) (by simp [cat_rf, cat_i, cat_j]) dX11_readsWord_29 ?_
    obtain ⟨a13, g14, h⟩ := bind_ok h
    obtain ⟨j15, g16, h⟩ := bind_ok h
    refine k_iald cx g14 g16 dX11_readsWord_30 ?_
    refine k_iconst cx 1 dX11_readsWord_31 (by decide) ?_
    refine k_iadd cx dX11_readsWord_32 ?_
    obtain ⟨a17, g18, h⟩ := bind_ok h
    obtain ⟨j19, g20, h⟩ := bind_ok h
    refine k_iast cx g18 g20 dX11_readsWord_33 ?_
    obtain rfl := Option.some.inj h
    exact Kx5
set_option maxRecDepth 100000 in
set_option maxHeartbeats 4000000 in
theorem w_X11_readsLine {Γ : GE} {σ : St} {t : Nat} {ρ : St} (hk : hpK σ t = 11) (h : f_X11_readsLine σ t = some ρ) : Ct Γ yX11_readsLine cX11_readsLine 2 none 3 63 [va_rf (some t)] σ none ρ := by
  refine ct_intro (own := RX11) (L0 := [(0, va_rf (some t))]) (by decide +kernel) rfl (by simp [lg_sl, cat_rf, cat_i, cat_j]) (by simp [lv_args, cat_rf, cat_i, cat_j]) ?_
  intro p l e s m args below meth c hr hlk hin cx
  have hk0 := dn_eq hk
  unfold f_X11_readsLine at h
  refine k_aload_n cx 0 dX11_readsLine_0 rfl rfl ?_
  refine k_iconst cx 0 dX11_readsLine_1 (by decide) ?_
  refine q_putI cx pl_X11_69 hk0 dX11_readsLine_2 ?_
  refine k_aload_n cx 0 dX11_readsLine_5 rfl rfl ?_
  refine k_iconst cx (-1) dX11_readsLine_6 (by decide) ?_
  refine q_putI cx pl_X11_83 hk0 dX11_readsLine_7 ?_
  refine k_aload_n cx 0 dX11_readsLine_10 rfl rfl ?_
  obtain ⟨q1, g2, h⟩ := bind_ok h
  refine k_callV cx iv_X11_76 (ci := 11) rfl (by decide) (w_X11_skips (dn_some hk0).2 g2) hk0 (As := []) rfl rfl ⟨Nat.le_of_ble_eq_true rfl, Nat.le_of_ble_eq_true rfl⟩ (by simp [cat_rf, cat_i, cat_j]) dX11_readsLine_11 ?_
  refine k_iconst cx 0 dX11_readsLine_14 (by decide) ?_
  refine k_istore_n cx (i := 1) [(1, .int 0), (0, va_rf (some t))] dX11_readsLine_15 rfl (by decide) (by simp [cat_rf, cat_i, cat_j]) ?_
  obtain ⟨x4, hxx4, h⟩ := bind_ok h
  have Kx4 : Og p l e s m args below meth c Γ 2 3 63 σ none ρ 35 [(0, va_rf (some t))] [] x4 := by
    refine k_aload_n cx 0 dX11_readsLine_35 rfl rfl ?_
    obtain ⟨a12, g13, h⟩ := bind_ok h
    refine q_getR cx fl_X11_19 g13 dX11_readsLine_36 ?_
    refine k_iconst cx 3 dX11_readsLine_39 (by decide) ?_
    refine k_aload_n cx 0 dX11_readsLine_40 rfl rfl ?_
    refine k_bipush cx 126 dX11_readsLine_41 (by decide) ?_
    obtain ⟨q14, g15, h⟩ := bind_ok h
    refine k_callV cx iv_X11_86 (ci := 11) rfl (by decide) (w_X11_takes (dn_some g13).2 g15) g13 (As := [.int 126]) rfl rfl ⟨Nat.le_of_ble_eq_true rfl, Nat.le_of_ble_eq_true rfl⟩ (by simp [cat_rf, cat_i, cat_j]) dX11_readsLine_43 ?_
    obtain ⟨x16, hxx16, h⟩ := bind_ok h
    have Kx16 : Og p l e s m args below meth c Γ 2 3 63 σ none ρ 54 [(0, va_rf (some t))] [.int x16, .int 3, va_rf (hpR x4 359 a12)] q14.2 := by
      obtain ⟨a18, g19, h⟩ := bind_ok h
      obtain ⟨j20, g21, h⟩ := bind_ok h
      refine k_iast cx g19 g21 dX11_readsLine_54 ?_
      obtain ⟨x23, hxx23, h⟩ := bind_ok h
      have Kx23 : Og p l e s m args below meth c Γ 2 3 63 σ none ρ 87 [(0, va_rf (some t))] [] x23 := by
        obtain ⟨x45, hxx45, h⟩ := bind_ok h
        have Kx45 : Og p l e s m args below meth c Γ 2 3 63 σ none ρ 109 [(0, va_rf (some t))] [] x45 := by
          refine k_aload_n cx 0 dX11_readsLine_109 rfl rfl ?_
          obtain ⟨a54, g55, h⟩ := bind_ok h
          refine q_getI cx fl_X11_83 g55 dX11_readsLine_110 ?_
          refine k_iconst cx (-1) dX11_readsLine_113 (by decide) ?_
          obtain ⟨x56, hxx56, h⟩ := bind_ok h
          have Kx56 : Og p l e s m args below meth c Γ 2 3 63 σ none ρ 146 [(0, va_rf (some t))] [] x56 := by
            refine k_aload_n cx 0 dX11_readsLine_146 rfl rfl ?_
            obtain ⟨a71, g72, h⟩ := bind_ok h
            refine q_getI cx fl_X11_83 g72 dX11_readsLine_147 ?_
            refine k_iconst cx (-1) dX11_readsLine_150 (by decide) ?_
            refine k_icmp_ne cx 182 dX11_readsLine_151 (by decide) (fun c73 => ?_) (fun c73 => ?_)
            · have h := ite_t h c73
              have h := Option.some.inj h
              exact k_vret cx hr hlk rfl (by rw [← h]) dX11_readsLine_182
            · have h := ite_f h c73
              refine k_aload_n cx 0 dX11_readsLine_154 rfl rfl ?_
              refine q_getR cx fl_X11_19 g72 dX11_readsLine_155 ?_
              refine k_iconst cx 1 dX11_readsLine_158 (by decide) ?_
              obtain ⟨a74, g75, h⟩ := bind_ok h
              obtain ⟨j76, g77, h⟩ := bind_ok h
              refine k_iald cx g75 g77 dX11_readsLine_159 ?_
              obtain ⟨x78, hxx78, Hx78⟩ := sb_ok h
              have Kx78 : ∀ wx78 : Unit, .inr wx78 = x78 → Og p l e s m args below meth c Γ 2 3 63 σ none ρ 174 [(0, va_rf (some t))] [] x56 := by
                intro wx78 hw
                have h := sb_inr hw Hx78
                refine k_aload_n cx 0 dX11_readsLine_174 rfl rfl ?_
                refine k_aload_n cx 0 dX11_readsLine_175 rfl rfl ?_
                refine q_getI cx fl_X11_69 g72 dX11_readsLine_176 ?_
                refine q_putI cx pl_X11_83 g72 dX11_readsLine_179 ?_
                have h := Option.some.inj h
                exact k_vret cx hr hlk rfl (by rw [← h]) dX11_readsLine_182
              have h := hxx78
              refine k_if_eq cx 174 dX11_readsLine_160 (by decide) (fun c79 => ?_) (fun c79 => ?_)
              · have h := ite_t h c79
                exact Kx78 _ (Option.some.inj h)
              · have h := ite_f h c79
                refine k_aload_n cx 0 dX11_readsLine_163 rfl rfl ?_
                refine q_getI cx fl_X11_69 g72 dX11_readsLine_164 ?_
                refine k_aload_n cx 0 dX11_readsLine_167 rfl rfl ?_
                refine q_getI cx fl_X11_66 g72 dX11_readsLine_168 ?_
                refine k_icmp_ge cx 182 dX11_readsLine_171 (by decide) (fun c80 => ?_) (fun c80 => ?_)
                · have h := ite_t h c80
                  have h := Option.some.inj h
                  have h := sb_ret h Hx78
                  exact k_vret cx hr hlk rfl (by rw [← h]) dX11_readsLine_182
                · have h := ite_f h c80
                  exact Kx78 _ (Option.some.inj h)
          have h := hxx56
          refine k_icmp_ne cx 146 dX11_readsLine_114 (by decide) (fun c57 => ?_) (fun c57 => ?_)
          · have h := ite_t h c57
            obtain rfl := Option.some.inj h
            exact Kx56
          · have h := ite_f h c57
            refine k_aload_n cx 0 dX11_readsLine_117 rfl rfl ?_
            refine q_getR cx fl_X11_19 g55 dX11_readsLine_118 ?_
            refine k_iconst cx 1 dX11_readsLine_121 (by decide) ?_
            obtain ⟨a58, g59, h⟩ := bind_ok h
            obtain ⟨j60, g61, h⟩ := bind_ok h
            refine k_iald cx g59 g61 dX11_readsLine_122 ?_
            refine k_if_le cx 146 dX11_readsLine_123 (by decide) (fun c62 => ?_) (fun c62 => ?_)
            · have h := ite_t h c62
              obtain rfl := Option.some.inj h
              exact Kx56
            · have h := ite_f h c62
              refine k_aload_n cx 0 dX11_readsLine_126 rfl rfl ?_
              refine q_getR cx fl_X11_19 g55 dX11_readsLine_127 ?_
              refine k_iconst cx 4 dX11_readsLine_130 (by decide) ?_
              refine k_aload_n cx 0 dX11_readsLine_131 rfl rfl ?_
              refine k_bipush cx 47 dX11_readsLine_132 (by decide) ?_
              obtain ⟨q63, g64, h⟩ := bind_ok h
              refine k_callV cx iv_X11_86 (ci := 11) rfl (by decide) (w_X11_takes (dn_some g55).2 g64) g55 (As := [.int 47]) rfl rfl ⟨Nat.le_of_ble_eq_true rfl, Nat.le_of_ble_eq_true rfl⟩ (by simp [cat_rf, cat_i, cat_j]) dX11_readsLine_134 ?_
              obtain ⟨x65, hxx65, h⟩ := bind_ok h
              have Kx65 : Og p l e s m args below meth c Γ 2 3 63 σ none ρ 145 [(0, va_rf (some t))] [.int x65, .int 4, va_rf (hpR x45 359 a54)] q63.2 := by
                obtain ⟨a67, g68, h⟩ := bind_ok h
                obtain ⟨j69, g70, h⟩ := bind_ok h
                refine k_iast cx g68 g70 dX11_readsLine_145 ?_
                obtain rfl := Option.some.inj h
                exact Kx56
              have h := hxx65
              refine k_if_eq cx 144 dX11_readsLine_137 (by decide) (fun c66 => ?_) (fun c66 => ?_)
              · have h := ite_t h c66
                refine k_iconst cx 0 dX11_readsLine_144 (by decide) ?_
                obtain rfl := Option.some.inj h
                exact Kx65
              · have h := ite_f h c66
                refine k_iconst cx 1 dX11_readsLine_140 (by decide) ?_
                refine k_goto cx 145 dX11_readsLine_141 (by decide) ?_
                obtain rfl := Option.some.inj h
                exact Kx65
        have KLx45 : ∀ (n : Nat) (τ : St), LX11_readsLine_87 n t τ = some x45 → Og p l e s m args below meth c Γ 2 3 63 σ none ρ 87 [(0, va_rf (some t))] [] τ := by
          intro n
          induction n with
          | zero => intro _ h; cases (show (none : Option _) = some x45 from h)
          | succ n ihx45 =>
            intro τ h
            rw [LX11_readsLine_87] at h
            refine k_aload_n cx 0 dX11_readsLine_87 rfl rfl ?_
            obtain ⟨a46, g47, h⟩ := bind_ok h
            obtain ⟨q48, g49, h⟩ := bind_ok h
            refine k_callV cx iv_X11_79 (ci := 11) rfl (by decide) (w_X11_isLetter (dn_some g47).2 g49) g47 (As := []) rfl rfl ⟨Nat.le_of_ble_eq_true rfl, Nat.le_of_ble_eq_true rfl⟩ (by simp [cat_rf, cat_i, cat_j]) dX11_readsLine_88 ?_
            refine k_if_eq cx 109 dX11_readsLine_91 (by decide) (fun c50 => ?_) (fun c50 => ?_)
            · have h := ite_t h c50
              obtain rfl := Option.some.inj h
              exact Kx45
            · have h := ite_f h c50
              refine k_aload_n cx 0 dX11_readsLine_94 rfl rfl ?_
              refine q_getI cx fl_X11_83 g47 dX11_readsLine_95 ?_
              refine k_iconst cx (-1) dX11_readsLine_98 (by decide) ?_
              refine k_icmp_ne cx 109 dX11_readsLine_99 (by decide) (fun c51 => ?_) (fun c51 => ?_)
              · have h := ite_t h c51
                obtain rfl := Option.some.inj h
                exact Kx45
              · have h := ite_f h c51
                refine k_aload_n cx 0 dX11_readsLine_102 rfl rfl ?_
                obtain ⟨q52, g53, h⟩ := bind_ok h
                refine k_callV cx iv_X11_90 (ci := 11) rfl (by decide) (w_X11_readsWord (dn_some g47).2 g53) g47 (As := []) rfl rfl ⟨Nat.le_of_ble_eq_true rfl, Nat.le_of_ble_eq_true rfl⟩ (by simp [cat_rf, cat_i, cat_j]) dX11_readsLine_103 ?_
                refine k_goto cx 87 dX11_readsLine_106 (by decide) ?_
                exact ihx45 _ h
        exact KLx45 FU _ hxx45
      have KLx23 : ∀ (n : Nat) (τ : St), LX11_readsLine_55 n t τ = some x23 → Og p l e s m args below meth c Γ 2 3 63 σ none ρ 55 [(0, va_rf (some t))] [] τ := by
        intro n
        induction n with
        | zero => intro _ h; cases (show (none : Option _) = some x23 from h)
        | succ n ihx23 =>
          intro τ h
          rw [LX11_readsLine_55] at h
          refine k_aload_n cx 0 dX11_readsLine_55 rfl rfl ?_
          obtain ⟨a24, g25, h⟩ := bind_ok h
          refine q_getR cx fl_X11_19 g25 dX11_readsLine_56 ?_
          refine k_iconst cx 2 dX11_readsLine_59 (by decide) ?_
          obtain ⟨a26, g27, h⟩ := bind_ok h
          obtain ⟨j28, g29, h⟩ := bind_ok h
          refine k_iald cx g27 g29 dX11_readsLine_60 ?_
          refine k_iconst cx 5 dX11_readsLine_61 (by decide) ?_
          refine k_icmp_ge cx 87 dX11_readsLine_62 (by decide) (fun c30 => ?_) (fun c30 => ?_)
          · have h := ite_t h c30
            obtain rfl := Option.some.inj h
            exact Kx23
          · have h := ite_f h c30
            refine k_aload_n cx 0 dX11_readsLine_65 rfl rfl ?_
            refine k_bipush cx 62 dX11_readsLine_66 (by decide) ?_
            obtain ⟨q31, g32, h⟩ := bind_ok h
            refine k_callV cx iv_X11_86 (ci := 11) rfl (by decide) (w_X11_takes (dn_some g25).2 g32) g25 (As := [.int 62]) rfl rfl ⟨Nat.le_of_ble_eq_true rfl, Nat.le_of_ble_eq_true rfl⟩ (by simp [cat_rf, cat_i, cat_j]) dX11_readsLine_68 ?_
            refine k_if_eq cx 87 dX11_readsLine_71 (by decide) (fun c33 => ?_) (fun c33 => ?_)
            · have h := ite_t h c33
              obtain rfl := Option.some.inj h
              exact Kx23
            · have h := ite_f h c33
              refine k_aload_n cx 0 dX11_readsLine_74 rfl rfl ?_
              obtain ⟨a34, g35, h⟩ := bind_ok h
              refine q_getR cx fl_X11_19 g35 dX11_readsLine_75 ?_
              refine k_iconst cx 2 dX11_readsLine_78 (by decide) ?_
              refine k_dup2 cx (by simp [cat_rf, cat_i, cat_j]) (by simp [cat_rf, cat_i, cat_j]) dX11_readsLine_79 ?_
              obtain ⟨a36, g37, h⟩ := bind_ok h
              obtain ⟨j38, g39, h⟩ := bind_ok h
              refine k_iald cx g37 g39 dX11_readsLine_80 ?_
              refine k_iconst cx 1 dX11_readsLine_81 (by decide) ?_
              refine k_iadd cx dX11_readsLine_82 ?_
              obtain ⟨a40, g41, h⟩ := bind_ok h
              obtain ⟨j42, g43, h⟩ := bind_ok h
              refine k_iast cx g41 g43 dX11_readsLine_83 ?_
              refine k_goto cx 55 dX11_readsLine_84 (by decide) ?_
              exact ihx23 _ h
      exact KLx23 FU _ hxx23
    have h := hxx16
    refine k_if_eq cx 53 dX11_readsLine_46 (by decide) (fun c17 => ?_) (fun c17 => ?_)
    · have h := ite_t h c17
      refine k_iconst cx 0 dX11_readsLine_53 (by decide) ?_
      obtain rfl := Option.some.inj h
      exact Kx16
    · have h := ite_f h c17
      refine k_iconst cx 1 dX11_readsLine_49 (by decide) ?_
      refine k_goto cx 54 dX11_readsLine_50 (by decide) ?_
      obtain rfl := Option.some.inj h
      exact Kx16
  have KLx4 : ∀ (n : Nat) (v1 : Int32) (τ : St), LX11_readsLine_16 n t v1 τ = some x4 → Og p l e s m args below meth c Γ 2 3 63 σ none ρ 16 [(0, va_rf (some t)), (1, .int v1)] [] τ := by
    intro n
    induction n with
    | zero => intro _ _ h; cases (show (none : Option _) = some x4 from h)
    | succ n ihx4 =>
      intro v1 τ h
      rw [LX11_readsLine_16] at h
      refine k_iload_n cx 1 dX11_readsLine_16 rfl rfl ?_
      refine k_bipush cx 85 dX11_readsLine_17 (by decide) ?_
      refine k_icmp_ge cx 35 dX11_readsLine_19 (by decide) (fun c5 => ?_) (fun c5 => ?_)
      · have h := ite_t h c5
        refine k_sub [0] rfl ?_
        obtain rfl := Option.some.inj h
        exact Kx4
      · have h := ite_f h c5
        refine k_aload_n cx 0 dX11_readsLine_22 rfl rfl ?_
        obtain ⟨a6, g7, h⟩ := bind_ok h
        refine q_getR cx fl_X11_19 g7 dX11_readsLine_23 ?_
        refine k_iload_n cx 1 dX11_readsLine_26 rfl rfl ?_
        refine k_iconst cx 0 dX11_readsLine_27 (by decide) ?_
        obtain ⟨a8, g9, h⟩ := bind_ok h
        obtain ⟨j10, g11, h⟩ := bind_ok h
        refine k_iast cx g9 g11 dX11_readsLine_28 ?_
        refine k_iinc cx 1 [(1, .int (v1 + 1)), (0, va_rf (some t))] (v1 + 1) dX11_readsLine_29 rfl rfl (by decide) (by simp [cat_rf, cat_i, cat_j]) ?_
        refine k_goto cx 16 dX11_readsLine_32 (by decide) ?_
        refine k_sub [1, 0] rfl ?_
        exact ihx4 _ _ h
  refine k_sub [1, 0] rfl ?_
  exact KLx4 FU _ _ hxx4
set_option maxRecDepth 100000 in
set_option maxHeartbeats 4000000 in
theorem w_X11_isName {Γ : GE} {σ : St} {t : Nat} {p1 : Int32} {p2 : Int64} {p3 : Int32} {ρ : Int32} (hk : hpK σ t = 11) (h : f_X11_isName σ t p1 p2 p3 = some ρ) : Ct Γ yX11_isName cX11_isName 7 (some .boolean) 0 0 [va_rf (some t), .int p1, .long p2, .int p3] σ (some (.int ρ)) σ := by
  refine ct_intro (own := RX11) (L0 := [(0, va_rf (some t)), (1, .int p1), (2, .long p2), (4, .int p3)]) (by decide +kernel) rfl (by simp [lg_sl, cat_rf, cat_i, cat_j]) (by simp [lv_args, cat_rf, cat_i, cat_j]) ?_
  intro p l e s m args below meth c hr hlk hin cx
  have hk0 := dn_eq hk
  unfold f_X11_isName at h
  refine k_aload_n cx 0 dX11_isName_0 rfl rfl ?_
  refine q_getI cx fl_X11_69 hk0 dX11_isName_1 ?_
  refine k_iload_n cx 1 dX11_isName_4 rfl rfl ?_
  refine k_isub cx dX11_isName_5 ?_
  refine k_iload cx 3 dX11_isName_6 rfl ?_
  obtain ⟨x1, hxx1, h⟩ := bind_ok h
  have Kx1 : Og p l e s m args below meth c Γ 7 0 0 σ (some (.int ρ)) σ 16 [(0, va_rf (some t)), (1, .int p1), (2, .long p2), (4, .int p3)] [.int x1] σ := by
    refine k_istore cx [(5, .int x1), (0, va_rf (some t)), (1, .int p1), (2, .long p2), (4, .int p3)] dX11_isName_16 (by decide) (by simp [cat_rf, cat_i, cat_j]) ?_
    refine k_iconst cx 0 dX11_isName_18 (by decide) ?_
    refine k_istore cx [(6, .int 0), (5, .int x1), (0, va_rf (some t)), (1, .int p1), (2, .long p2), (4, .int p3)] dX11_isName_19 (by decide) (by simp [cat_rf, cat_i, cat_j]) ?_
    obtain ⟨x4, hxx4, h⟩ := bind_ok h
    have Kx4 : Og p l e s m args below meth c Γ 7 0 0 σ (some (.int ρ)) σ 75 [(5, .int x4)] [] σ := by
      refine k_iload cx 0 dX11_isName_75 rfl ?_
      obtain ⟨z13, g14, h⟩ := bind_ok h
      have h := Option.some.inj h
      exact k_zret cx hr hlk g14 (by rw [← h]) rfl dX11_isName_77
    have KLx4 : ∀ (n : Nat) (v5 : Int32) (v6 : Int32), LX11_isName_21 n σ t p1 p2 p3 v5 v6 = some x4 → Og p l e s m args below meth c Γ 7 0 0 σ (some (.int ρ)) σ 21 [(0, va_rf (some t)), (1, .int p1), (2, .long p2), (4, .int p3), (5, .int v5), (6, .int v6)] [] σ := by
      intro n
      induction n with
      | zero => intro _ _ h; cases (show (none : Option _) = some x4 from h)
      | succ n ihx4 =>
        intro v5 v6 h
        rw [LX11_isName_21] at h
        refine k_iload cx 5 dX11_isName_21 rfl ?_
        refine k_iload cx 3 dX11_isName_23 rfl ?_
        refine k_icmp_ge cx 75 dX11_isName_25 (by decide) (fun c5 => ?_) (fun c5 => ?_)
        · have h := ite_t h c5
          refine k_sub [4] rfl ?_
          obtain rfl := Option.some.inj h
          exact Kx4
        · have h := ite_f h c5
          refine k_iload cx 4 dX11_isName_28 rfl ?_
          refine k_if_eq cx 75 dX11_isName_30 (by decide) (fun c6 => ?_) (fun c6 => ?_)
          · have h := ite_t h c6
            refine k_sub [4] rfl ?_
            obtain rfl := Option.some.inj h
            exact Kx4
          · have h := ite_f h c6
            refine k_aload_n cx 0 dX11_isName_33 rfl rfl ?_
            refine q_getR cx fl_X11_16 hk0 dX11_isName_34 ?_
            refine k_iload_n cx 1 dX11_isName_37 rfl rfl ?_
            refine k_iload cx 5 dX11_isName_38 rfl ?_
            refine k_iadd cx dX11_isName_40 ?_
            obtain ⟨a7, g8, h⟩ := bind_ok h
            obtain ⟨j9, g10, h⟩ := bind_ok h
            refine k_iald cx g8 g10 dX11_isName_41 ?_
            refine k_lload_n cx 2 dX11_isName_42 rfl rfl ?_
            refine k_bipush cx 8 dX11_isName_43 (by decide) ?_
            refine k_iload cx 3 dX11_isName_45 rfl ?_
            refine k_iconst cx 1 dX11_isName_47 (by decide) ?_
            refine k_isub cx dX11_isName_48 ?_
            refine k_iload cx 5 dX11_isName_49 rfl ?_
            refine k_isub cx dX11_isName_51 ?_
            refine k_imul cx dX11_isName_52 ?_
            refine k_lshr cx dX11_isName_53 ?_
            refine k_ldc2 cx 127 lw_X11_93 dX11_isName_54 ?_
            refine k_land cx dX11_isName_57 ?_
            refine k_l2i cx dX11_isName_58 ?_
            obtain ⟨x11, hxx11, h⟩ := bind_ok h
            have Kx11 : Og p l e s m args below meth c Γ 7 0 0 σ (some (.int ρ)) σ 67 [(0, va_rf (some t)), (1, .int p1), (2, .long p2), (4, .int p3), (6, .int v6)] [.int x11] σ := by
              refine k_istore cx [(5, .int x11), (0, va_rf (some t)), (1, .int p1), (2, .long p2), (4, .int p3), (6, .int v6)] dX11_isName_67 (by decide) (by simp [cat_rf, cat_i, cat_j]) ?_
              refine k_iinc cx 5 [(6, .int (v6 + 1)), (5, .int x11), (0, va_rf (some t)), (1, .int p1), (2, .long p2), (4, .int p3)] (v6 + 1) dX11_isName_69 rfl rfl (by decide) (by simp [cat_rf, cat_i, cat_j]) ?_
              refine k_goto cx 21 dX11_isName_72 (by decide) ?_
              refine k_sub [2, 3, 4, 5, 1, 0] rfl ?_
              exact ihx4 _ _ h
            have h := hxx11
            refine k_icmp_ne cx 66 dX11_isName_59 (by decide) (fun c12 => ?_) (fun c12 => ?_)
            · have h := ite_t h c12
              refine k_iconst cx 0 dX11_isName_66 (by decide) ?_
              refine k_sub [0, 1, 2, 3, 5] rfl ?_
              obtain rfl := Option.some.inj h
              exact Kx11
            · have h := ite_f h c12
              refine k_iconst cx 1 dX11_isName_62 (by decide) ?_
              refine k_goto cx 67 dX11_isName_63 (by decide) ?_
              refine k_sub [0, 1, 2, 3, 5] rfl ?_
              obtain rfl := Option.some.inj h
              exact Kx11
    refine k_sub [2, 3, 4, 5, 1, 0] rfl ?_
    exact KLx4 FU _ _ hxx4
  have h := hxx1
  refine k_icmp_ne cx 15 dX11_isName_8 (by decide) (fun c2 => ?_) (fun c2 => ?_)
  · have h := ite_t h c2
    refine k_iconst cx 0 dX11_isName_15 (by decide) ?_
    obtain rfl := Option.some.inj h
    exact Kx1
  · have h := ite_f h c2
    refine k_iconst cx 1 dX11_isName_11 (by decide) ?_
    refine k_goto cx 16 dX11_isName_12 (by decide) ?_
    obtain rfl := Option.some.inj h
    exact Kx1
set_option maxRecDepth 100000 in
set_option maxHeartbeats 4000000 in
theorem w_X11_readsShape {Γ : GE} {σ : St} {t : Nat} {ρ : St} (hk : hpK σ t = 11) (h : f_X11_readsShape σ t = some ρ) : Ct Γ yX11_readsShape cX11_readsShape 2 none 2 42 [va_rf (some t)] σ none ρ := by
  refine ct_intro (own := RX11) (L0 := [(0, va_rf (some t))]) (by decide +kernel) rfl (by simp [lg_sl, cat_rf, cat_i, cat_j]) (by simp [lv_args, cat_rf, cat_i, cat_j]) ?_
  intro p l e s m args below meth c hr hlk hin cx
  have hk0 := dn_eq hk
  unfold f_X11_readsShape at h
  refine k_aload_n cx 0 dX11_readsShape_0 rfl rfl ?_
  refine k_iconst cx 0 dX11_readsShape_1 (by decide) ?_
  refine q_putI cx pl_X11_69 hk0 dX11_readsShape_2 ?_
  refine k_aload_n cx 0 dX11_readsShape_5 rfl rfl ?_
  refine k_iconst cx (-1) dX11_readsShape_6 (by decide) ?_
  refine q_putI cx pl_X11_83 hk0 dX11_readsShape_7 ?_
  refine k_aload_n cx 0 dX11_readsShape_10 rfl rfl ?_
  obtain ⟨q1, g2, h⟩ := bind_ok h
  refine k_callV cx iv_X11_76 (ci := 11) rfl (by decide) (w_X11_skips (dn_some hk0).2 g2) hk0 (As := []) rfl rfl ⟨Nat.le_of_ble_eq_true rfl, Nat.le_of_ble_eq_true rfl⟩ (by simp [cat_rf, cat_i, cat_j]) dX11_readsShape_11 ?_
  refine k_aload_n cx 0 dX11_readsShape_14 rfl rfl ?_
  obtain ⟨a3, g4, h⟩ := bind_ok h
  refine q_getI cx fl_X11_69 g4 dX11_readsShape_15 ?_
  refine k_istore_n cx (i := 1) [(1, .int (hpI q1 357 a3)), (0, va_rf (some t))] dX11_readsShape_18 rfl (by decide) (by simp [cat_rf, cat_i, cat_j]) ?_
  obtain ⟨x6, hxx6, h⟩ := bind_ok h
  have Kx6 : Og p l e s m args below meth c Γ 2 2 42 σ none ρ 39 [(0, va_rf (some t)), (1, .int (hpI q1 357 a3))] [] x6 := by
    refine k_aload_n cx 0 dX11_readsShape_39 rfl rfl ?_
    refine k_aload_n cx 0 dX11_readsShape_40 rfl rfl ?_
    refine k_iload_n cx 1 dX11_readsShape_41 rfl rfl ?_
    refine k_ldc2 cx 126931137819237 lw_X11_95 dX11_readsShape_42 ?_
    refine k_bipush cx 6 dX11_readsShape_45 (by decide) ?_
    obtain ⟨a12, g13, h⟩ := bind_ok h
    obtain ⟨q14, g15, h⟩ := bind_ok h
    refine k_callV cx iv_X11_97 (ci := 11) rfl (by decide) (w_X11_isName (dn_some g13).2 g15) g13 (As := [.int (hpI q1 357 a3), .long 126931137819237, .int 6]) rfl rfl ⟨Nat.le_of_ble_eq_true rfl, Nat.le_of_ble_eq_true rfl⟩ (by simp [cat_rf, cat_i, cat_j]) dX11_readsShape_47 ?_
    obtain ⟨x16, hxx16, h⟩ := bind_ok h
    have Kx16 : Og p l e s m args below meth c Γ 2 2 42 σ none ρ 107 [(0, va_rf (some t)), (1, .int (hpI q1 357 a3))] [.int x16, va_rf (some t)] x6 := by
      refine q_putI cx pl_X11_107 g13 dX11_readsShape_107 ?_
      refine k_aload_n cx 0 dX11_readsShape_110 rfl rfl ?_
      refine q_getI cx fl_X11_107 g13 dX11_readsShape_111 ?_
      refine k_iconst cx (-1) dX11_readsShape_114 (by decide) ?_
      refine k_icmp_ne cx 124 dX11_readsShape_115 (by decide) (fun c27 => ?_) (fun c27 => ?_)
      · have h := ite_t h c27
        refine k_aload_n cx 0 dX11_readsShape_124 rfl rfl ?_
        obtain ⟨q28, g29, h⟩ := bind_ok h
        refine k_callV cx iv_X11_76 (ci := 11) rfl (by decide) (w_X11_skips (dn_some g13).2 g29) g13 (As := []) rfl rfl ⟨Nat.le_of_ble_eq_true rfl, Nat.le_of_ble_eq_true rfl⟩ (by simp [cat_rf, cat_i, cat_j]) dX11_readsShape_125 ?_
        refine k_aload_n cx 0 dX11_readsShape_128 rfl rfl ?_
        refine k_aload_n cx 0 dX11_readsShape_129 rfl rfl ?_
        obtain ⟨a30, g31, h⟩ := bind_ok h
        refine q_getI cx fl_X11_69 g31 dX11_readsShape_130 ?_
        refine k_aload_n cx 0 dX11_readsShape_133 rfl rfl ?_
        refine q_getI cx fl_X11_66 g31 dX11_readsShape_134 ?_
        obtain ⟨x32, hxx32, h⟩ := bind_ok h
        have Kx32 : Og p l e s m args below meth c Γ 2 2 42 σ none ρ 148 [] [.int x32, va_rf (some t)] q28 := by
          refine q_putI cx pl_X11_83 g31 dX11_readsShape_148 ?_
          have h := Option.some.inj h
          exact k_vret cx hr hlk rfl (by rw [← h]) dX11_readsShape_151
        have h := hxx32
        refine k_icmp_ge cx 147 dX11_readsShape_137 (by decide) (fun c33 => ?_) (fun c33 => ?_)
        · have h := ite_t h c33
          refine k_iconst cx (-1) dX11_readsShape_147 (by decide) ?_
          refine k_sub [] rfl ?_
          obtain rfl := Option.some.inj h
          exact Kx32
        · have h := ite_f h c33
          refine k_aload_n cx 0 dX11_readsShape_140 rfl rfl ?_
          refine q_getI cx fl_X11_69 g31 dX11_readsShape_141 ?_
          refine k_goto cx 148 dX11_readsShape_144 (by decide) ?_
          refine k_sub [] rfl ?_
          obtain rfl := Option.some.inj h
          exact Kx32
      · have h := ite_f h c27
        refine k_aload_n cx 0 dX11_readsShape_118 rfl rfl ?_
        refine k_iload_n cx 1 dX11_readsShape_119 rfl rfl ?_
        refine q_putI cx pl_X11_83 g13 dX11_readsShape_120 ?_
        have h := Option.some.inj h
        exact k_vret cx hr hlk rfl (by rw [← h]) dX11_readsShape_123
    have h := hxx16
    refine k_if_eq cx 57 dX11_readsShape_50 (by decide) (fun c17 => ?_) (fun c17 => ?_)
    · have h := ite_t h c17
      refine k_aload_n cx 0 dX11_readsShape_57 rfl rfl ?_
      refine k_iload_n cx 1 dX11_readsShape_58 rfl rfl ?_
      refine k_ldc2 cx 512802187109 lw_X11_101 dX11_readsShape_59 ?_
      refine k_iconst cx 5 dX11_readsShape_62 (by decide) ?_
      obtain ⟨q18, g19, h⟩ := bind_ok h
      refine k_callV cx iv_X11_97 (ci := 11) rfl (by decide) (w_X11_isName (dn_some g13).2 g19) g13 (As := [.int (hpI q1 357 a3), .long 512802187109, .int 5]) rfl rfl ⟨Nat.le_of_ble_eq_true rfl, Nat.le_of_ble_eq_true rfl⟩ (by simp [cat_rf, cat_i, cat_j]) dX11_readsShape_63 ?_
      refine k_if_eq cx 73 dX11_readsShape_66 (by decide) (fun c20 => ?_) (fun c20 => ?_)
      · have h := ite_t h c20
        refine k_aload_n cx 0 dX11_readsShape_73 rfl rfl ?_
        refine k_iload_n cx 1 dX11_readsShape_74 rfl rfl ?_
        refine k_ldc2 cx 28263364839829092 lw_X11_103 dX11_readsShape_75 ?_
        refine k_bipush cx 7 dX11_readsShape_78 (by decide) ?_
        obtain ⟨q21, g22, h⟩ := bind_ok h
        refine k_callV cx iv_X11_97 (ci := 11) rfl (by decide) (w_X11_isName (dn_some g13).2 g22) g13 (As := [.int (hpI q1 357 a3), .long 28263364839829092, .int 7]) rfl rfl ⟨Nat.le_of_ble_eq_true rfl, Nat.le_of_ble_eq_true rfl⟩ (by simp [cat_rf, cat_i, cat_j]) dX11_readsShape_80 ?_
        refine k_if_eq cx 90 dX11_readsShape_83 (by decide) (fun c23 => ?_) (fun c23 => ?_)
        · have h := ite_t h c23
          refine k_aload_n cx 0 dX11_readsShape_90 rfl rfl ?_
          refine k_iload_n cx 1 dX11_readsShape_91 rfl rfl ?_
          refine k_ldc2 cx 444199957363 lw_X11_105 dX11_readsShape_92 ?_
          refine k_iconst cx 5 dX11_readsShape_95 (by decide) ?_
          obtain ⟨q24, g25, h⟩ := bind_ok h
          refine k_callV cx iv_X11_97 (ci := 11) rfl (by decide) (w_X11_isName (dn_some g13).2 g25) g13 (As := [.int (hpI q1 357 a3), .long 444199957363, .int 5]) rfl rfl ⟨Nat.le_of_ble_eq_true rfl, Nat.le_of_ble_eq_true rfl⟩ (by simp [cat_rf, cat_i, cat_j]) dX11_readsShape_96 ?_
          refine k_if_eq cx 106 dX11_readsShape_99 (by decide) (fun c26 => ?_) (fun c26 => ?_)
          · have h := ite_t h c26
            refine k_iconst cx (-1) dX11_readsShape_106 (by decide) ?_
            obtain rfl := Option.some.inj h
            exact Kx16
          · have h := ite_f h c26
            refine k_iconst cx 3 dX11_readsShape_102 (by decide) ?_
            refine k_goto cx 107 dX11_readsShape_103 (by decide) ?_
            obtain rfl := Option.some.inj h
            exact Kx16
        · have h := ite_f h c23
          refine k_iconst cx 2 dX11_readsShape_86 (by decide) ?_
          refine k_goto cx 107 dX11_readsShape_87 (by decide) ?_
          obtain rfl := Option.some.inj h
          exact Kx16
      · have h := ite_f h c20
        refine k_iconst cx 1 dX11_readsShape_69 (by decide) ?_
        refine k_goto cx 107 dX11_readsShape_70 (by decide) ?_
        obtain rfl := Option.some.inj h
        exact Kx16
    · have h := ite_f h c17
      refine k_iconst cx 0 dX11_readsShape_53 (by decide) ?_
      refine k_goto cx 107 dX11_readsShape_54 (by decide) ?_
      obtain rfl := Option.some.inj h
      exact Kx16
  have KLx6 : ∀ (n : Nat) (τ : St), LX11_readsShape_19 n t (hpI q1 357 a3) τ = some x6 → Og p l e s m args below meth c Γ 2 2 42 σ none ρ 19 [(0, va_rf (some t)), (1, .int (hpI q1 357 a3))] [] τ := by
    intro n
    induction n with
    | zero => intro _ h; cases (show (none : Option _) = some x6 from h)
    | succ n ihx6 =>
      intro τ h
      rw [LX11_readsShape_19] at h
      refine k_aload_n cx 0 dX11_readsShape_19 rfl rfl ?_
      obtain ⟨a7, g8, h⟩ := bind_ok h
      obtain ⟨q9, g10, h⟩ := bind_ok h
      refine k_callV cx iv_X11_79 (ci := 11) rfl (by decide) (w_X11_isLetter (dn_some g8).2 g10) g8 (As := []) rfl rfl ⟨Nat.le_of_ble_eq_true rfl, Nat.le_of_ble_eq_true rfl⟩ (by simp [cat_rf, cat_i, cat_j]) dX11_readsShape_20 ?_
      refine k_if_eq cx 39 dX11_readsShape_23 (by decide) (fun c11 => ?_) (fun c11 => ?_)
      · have h := ite_t h c11
        obtain rfl := Option.some.inj h
        exact Kx6
      · have h := ite_f h c11
        refine k_aload_n cx 0 dX11_readsShape_26 rfl rfl ?_
        refine k_dup cx (by simp [cat_rf, cat_i, cat_j]) dX11_readsShape_27 ?_
        refine q_getI cx fl_X11_69 g8 dX11_readsShape_28 ?_
        refine k_iconst cx 1 dX11_readsShape_31 (by decide) ?_
        refine k_iadd cx dX11_readsShape_32 ?_
        refine q_putI cx pl_X11_69 g8 dX11_readsShape_33 ?_
        refine k_goto cx 19 dX11_readsShape_36 (by decide) ?_
        exact ihx6 _ h
  refine k_sub [1, 0] rfl ?_
  exact KLx6 FU _ hxx6
set_option maxRecDepth 100000 in
set_option maxHeartbeats 4000000 in
theorem w_X11_fault {Γ : GE} {σ : St} {t : Nat} {p1 : Int32} {ρ : Int32 × St} (hk : hpK σ t = 11) (h : f_X11_fault σ t p1 = some ρ) : Ct Γ yX11_fault cX11_fault 2 (some .int) 4 84 [va_rf (some t), .int p1] σ (some (.int ρ.1)) ρ.2 := by
  refine ct_intro (own := RX11) (L0 := [(0, va_rf (some t)), (1, .int p1)]) (by decide +kernel) rfl (by simp [lg_sl, cat_rf, cat_i, cat_j]) (by simp [lv_args, cat_rf, cat_i, cat_j]) ?_
  intro p l e s m args below meth c hr hlk hin cx
  have hk0 := dn_eq hk
  unfold f_X11_fault at h
  refine k_iload_n cx 1 dX11_fault_0 rfl rfl ?_
  obtain ⟨x1, hxx1, h⟩ := bind_ok h
  have Kx1 : Og p l e s m args below meth c Γ 2 4 84 σ (some (.int ρ.1)) ρ.2 15 [(0, va_rf (some t))] [] x1 := by
    refine k_aload_n cx 0 dX11_fault_15 rfl rfl ?_
    obtain ⟨a7, g8, h⟩ := bind_ok h
    refine q_getI cx fl_X11_83 g8 dX11_fault_16 ?_
    have h := Option.some.inj h
    exact k_iret cx hr hlk (by rw [← h]) (by rw [← h]) dX11_fault_19
  have h := hxx1
  refine k_if_eq cx 11 dX11_fault_1 (by decide) (fun c2 => ?_) (fun c2 => ?_)
  · have h := ite_t h c2
    refine k_aload_n cx 0 dX11_fault_11 rfl rfl ?_
    obtain ⟨q3, g4, h⟩ := bind_ok h
    refine k_callV cx iv_X11_113 (ci := 11) rfl (by decide) (w_X11_readsLine (dn_some hk0).2 g4) hk0 (As := []) rfl rfl ⟨Nat.le_of_ble_eq_true rfl, Nat.le_of_ble_eq_true rfl⟩ (by simp [cat_rf, cat_i, cat_j]) dX11_fault_12 ?_
    refine k_sub [0] rfl ?_
    obtain rfl := Option.some.inj h
    exact Kx1
  · have h := ite_f h c2
    refine k_aload_n cx 0 dX11_fault_4 rfl rfl ?_
    obtain ⟨q5, g6, h⟩ := bind_ok h
    refine k_callV cx iv_X11_110 (ci := 11) rfl (by decide) (w_X11_readsShape (dn_some hk0).2 g6) hk0 (As := []) rfl rfl ⟨Nat.le_of_ble_eq_true rfl, Nat.le_of_ble_eq_true rfl⟩ (by simp [cat_rf, cat_i, cat_j]) dX11_fault_5 ?_
    refine k_goto cx 15 dX11_fault_8 (by decide) ?_
    refine k_sub [0] rfl ?_
    obtain rfl := Option.some.inj h
    exact Kx1
set_option maxRecDepth 100000 in
set_option maxHeartbeats 4000000 in
theorem w_X11_isLine {Γ : GE} {σ : St} {t : Nat} {p1 : Int32} {ρ : Int32} (hk : hpK σ t = 11) (h : f_X11_isLine σ t p1 = some ρ) : Ct Γ yX11_isLine cX11_isLine 2 (some .boolean) 1 22 [va_rf (some t), .int p1] σ (some (.int ρ)) σ := by
  refine ct_intro (own := RX11) (L0 := [(0, va_rf (some t)), (1, .int p1)]) (by decide +kernel) rfl (by simp [lg_sl, cat_rf, cat_i, cat_j]) (by simp [lv_args, cat_rf, cat_i, cat_j]) ?_
  intro p l e s m args below meth c hr hlk hin cx
  have hk0 := dn_eq hk
  unfold f_X11_isLine at h
  refine k_iload_n cx 1 dX11_isLine_0 rfl rfl ?_
  refine k_iconst cx 0 dX11_isLine_1 (by decide) ?_
  refine k_aload_n cx 0 dX11_isLine_2 rfl rfl ?_
  refine q_getR cx fl_X11_7 hk0 dX11_isLine_3 ?_
  refine k_sipush cx 2040 dX11_isLine_6 (by decide) ?_
  obtain ⟨a1, g2, h⟩ := bind_ok h
  obtain ⟨j3, g4, h⟩ := bind_ok h
  refine k_iald cx g2 g4 dX11_isLine_9 ?_
  refine k_iconst cx 1 dX11_isLine_10 (by decide) ?_
  refine k_isub cx dX11_isLine_11 ?_
  obtain ⟨q5, g6, h⟩ := bind_ok h
  refine k_callS cx iv_X11_62 (w_X11_in g6) (As := [.int p1, .int 0, .int ((hpA σ a1 j3) - 1)]) rfl rfl ⟨Nat.le_of_ble_eq_true rfl, Nat.le_of_ble_eq_true rfl⟩ (by simp [cat_rf, cat_i, cat_j]) dX11_isLine_12 ?_
  obtain ⟨z7, g8, h⟩ := bind_ok h
  have h := Option.some.inj h
  exact k_zret cx hr hlk g8 (by rw [← h]) rfl dX11_isLine_15
set_option maxRecDepth 100000 in
set_option maxHeartbeats 4000000 in
theorem w_X11_of {Γ : GE} {σ : St} {t : Nat} {p1 : Int32} {p2 : Int32} {ρ : Int32} (hk : hpK σ t = 11) (h : f_X11_of σ t p1 p2 = some ρ) : Ct Γ yX11_of cX11_of 3 (some .int) 0 0 [va_rf (some t), .int p1, .int p2] σ (some (.int ρ)) σ := by
  refine ct_intro (own := RX11) (L0 := [(0, va_rf (some t)), (1, .int p1), (2, .int p2)]) (by decide +kernel) rfl (by simp [lg_sl, cat_rf, cat_i, cat_j]) (by simp [lv_args, cat_rf, cat_i, cat_j]) ?_
  intro p l e s m args below meth c hr hlk hin cx
  have hk0 := dn_eq hk
  unfold f_X11_of at h
  refine k_aload_n cx 0 dX11_of_0 rfl rfl ?_
  refine q_getR cx fl_X11_7 hk0 dX11_of_1 ?_
  refine k_bipush cx 85 dX11_of_4 (by decide) ?_
  refine k_iload_n cx 1 dX11_of_6 rfl rfl ?_
  refine k_imul cx dX11_of_7 ?_
  refine k_iload_n cx 2 dX11_of_8 rfl rfl ?_
  refine k_iadd cx dX11_of_9 ?_
  obtain ⟨a1, g2, h⟩ := bind_ok h
  obtain ⟨j3, g4, h⟩ := bind_ok h
  refine k_iald cx g2 g4 dX11_of_10 ?_
  have h := Option.some.inj h
  exact k_iret cx hr hlk (by rw [← h]) rfl dX11_of_11
set_option maxRecDepth 100000 in
set_option maxHeartbeats 4000000 in
theorem w_X11_copies {Γ : GE} {σ : St} {t : Nat} {p1 : Int32} {p2 : Int32} {ρ : St} (hk : hpK σ t = 11) (h : f_X11_copies σ t p1 p2 = some ρ) : Ct Γ yX11_copies cX11_copies 4 none 0 0 [va_rf (some t), .int p1, .int p2] σ none ρ := by
  refine ct_intro (own := RX11) (L0 := [(0, va_rf (some t)), (1, .int p1), (2, .int p2)]) (by decide +kernel) rfl (by simp [lg_sl, cat_rf, cat_i, cat_j]) (by simp [lv_args, cat_rf, cat_i, cat_j]) ?_
  intro p l e s m args below meth c hr hlk hin cx
  have hk0 := dn_eq hk
  unfold f_X11_copies at h
  refine k_iconst cx 0 dX11_copies_0 (by decide) ?_
  refine k_istore_n cx (i := 3) [(3, .int 0), (0, va_rf (some t)), (1, .int p1), (2, .int p2)] dX11_copies_1 rfl (by decide) (by simp [cat_rf, cat_i, cat_j]) ?_
  obtain ⟨x2, hxx2, h⟩ := bind_ok h
  have Kx2 : Og p l e s m args below meth c Γ 4 0 0 σ none ρ 36 [] [] x2 := by
    have h := Option.some.inj h
    exact k_vret cx hr hlk rfl (by rw [← h]) dX11_copies_36
  have KLx2 : ∀ (n : Nat) (v3 : Int32) (τ : St), LX11_copies_2 n t p1 p2 v3 τ = some x2 → Og p l e s m args below meth c Γ 4 0 0 σ none ρ 2 [(0, va_rf (some t)), (1, .int p1), (2, .int p2), (3, .int v3)] [] τ := by
    intro n
    induction n with
    | zero => intro _ _ h; cases (show (none : Option _) = some x2 from h)
    | succ n ihx2 =>
      intro v3 τ h
      rw [LX11_copies_2] at h
      refine k_iload_n cx 3 dX11_copies_2 rfl rfl ?_
      refine k_bipush cx 85 dX11_copies_3 (by decide) ?_
      refine k_icmp_ge cx 36 dX11_copies_5 (by decide) (fun c3 => ?_) (fun c3 => ?_)
      · have h := ite_t h c3
        refine k_sub [] rfl ?_
        obtain rfl := Option.some.inj h
        exact Kx2
      · have h := ite_f h c3
        refine k_aload_n cx 0 dX11_copies_8 rfl rfl ?_
        obtain ⟨a4, g5, h⟩ := bind_ok h
        refine q_getR cx fl_X11_7 g5 dX11_copies_9 ?_
        refine k_bipush cx 85 dX11_copies_12 (by decide) ?_
        refine k_iload_n cx 2 dX11_copies_14 rfl rfl ?_
        refine k_imul cx dX11_copies_15 ?_
        refine k_iload_n cx 3 dX11_copies_16 rfl rfl ?_
        refine k_iadd cx dX11_copies_17 ?_
        refine k_aload_n cx 0 dX11_copies_18 rfl rfl ?_
        refine q_getR cx fl_X11_7 g5 dX11_copies_19 ?_
        refine k_bipush cx 85 dX11_copies_22 (by decide) ?_
        refine k_iload_n cx 1 dX11_copies_24 rfl rfl ?_
        refine k_imul cx dX11_copies_25 ?_
        refine k_iload_n cx 3 dX11_copies_26 rfl rfl ?_
        refine k_iadd cx dX11_copies_27 ?_
        obtain ⟨a6, g7, h⟩ := bind_ok h
        obtain ⟨j8, g9, h⟩ := bind_ok h
        refine k_iald cx g7 g9 dX11_copies_28 ?_
        obtain ⟨a10, g11, h⟩ := bind_ok h
        obtain ⟨j12, g13, h⟩ := bind_ok h
        refine k_iast cx g11 g13 dX11_copies_29 ?_
        refine k_iinc cx 3 [(3, .int (v3 + 1)), (0, va_rf (some t)), (1, .int p1), (2, .int p2)] (v3 + 1) dX11_copies_30 rfl rfl (by decide) (by simp [cat_rf, cat_i, cat_j]) ?_
        refine k_goto cx 2 dX11_copies_33 (by decide) ?_
        refine k_sub [1, 2, 3, 0] rfl ?_
        exact ihx2 _ _ h
  refine k_sub [1, 2, 3, 0] rfl ?_
  exact KLx2 FU _ _ hxx2
set_option maxRecDepth 100000 in
set_option maxHeartbeats 4000000 in
theorem w_X11_lays {Γ : GE} {σ : St} {t : Nat} {p1 : Int32} {ρ : St} (hk : hpK σ t = 11) (h : f_X11_lays σ t p1 = some ρ) : Ct Γ yX11_lays cX11_lays 3 none 0 0 [va_rf (some t), .int p1] σ none ρ := by
  refine ct_intro (own := RX11) (L0 := [(0, va_rf (some t)), (1, .int p1)]) (by decide +kernel) rfl (by simp [lg_sl, cat_rf, cat_i, cat_j]) (by simp [lv_args, cat_rf, cat_i, cat_j]) ?_
  intro p l e s m args below meth c hr hlk hin cx
  have hk0 := dn_eq hk
  unfold f_X11_lays at h
  refine k_iconst cx 0 dX11_lays_0 (by decide) ?_
  refine k_istore_n cx (i := 2) [(2, .int 0), (0, va_rf (some t)), (1, .int p1)] dX11_lays_1 rfl (by decide) (by simp [cat_rf, cat_i, cat_j]) ?_
  obtain ⟨x2, hxx2, h⟩ := bind_ok h
  have Kx2 : Og p l e s m args below meth c Γ 3 0 0 σ none ρ 31 [] [] x2 := by
    have h := Option.some.inj h
    exact k_vret cx hr hlk rfl (by rw [← h]) dX11_lays_31
  have KLx2 : ∀ (n : Nat) (v2 : Int32) (τ : St), LX11_lays_2 n t p1 v2 τ = some x2 → Og p l e s m args below meth c Γ 3 0 0 σ none ρ 2 [(0, va_rf (some t)), (1, .int p1), (2, .int v2)] [] τ := by
    intro n
    induction n with
    | zero => intro _ _ h; cases (show (none : Option _) = some x2 from h)
    | succ n ihx2 =>
      intro v2 τ h
      rw [LX11_lays_2] at h
      refine k_iload_n cx 2 dX11_lays_2 rfl rfl ?_
      refine k_bipush cx 85 dX11_lays_3 (by decide) ?_
      refine k_icmp_ge cx 31 dX11_lays_5 (by decide) (fun c3 => ?_) (fun c3 => ?_)
      · have h := ite_t h c3
        refine k_sub [] rfl ?_
        obtain rfl := Option.some.inj h
        exact Kx2
      · have h := ite_f h c3
        refine k_aload_n cx 0 dX11_lays_8 rfl rfl ?_
        obtain ⟨a4, g5, h⟩ := bind_ok h
        refine q_getR cx fl_X11_7 g5 dX11_lays_9 ?_
        refine k_bipush cx 85 dX11_lays_12 (by decide) ?_
        refine k_iload_n cx 1 dX11_lays_14 rfl rfl ?_
        refine k_imul cx dX11_lays_15 ?_
        refine k_iload_n cx 2 dX11_lays_16 rfl rfl ?_
        refine k_iadd cx dX11_lays_17 ?_
        refine k_aload_n cx 0 dX11_lays_18 rfl rfl ?_
        refine q_getR cx fl_X11_19 g5 dX11_lays_19 ?_
        refine k_iload_n cx 2 dX11_lays_22 rfl rfl ?_
        obtain ⟨a6, g7, h⟩ := bind_ok h
        obtain ⟨j8, g9, h⟩ := bind_ok h
        refine k_iald cx g7 g9 dX11_lays_23 ?_
        obtain ⟨a10, g11, h⟩ := bind_ok h
        obtain ⟨j12, g13, h⟩ := bind_ok h
        refine k_iast cx g11 g13 dX11_lays_24 ?_
        refine k_iinc cx 2 [(2, .int (v2 + 1)), (0, va_rf (some t)), (1, .int p1)] (v2 + 1) dX11_lays_25 rfl rfl (by decide) (by simp [cat_rf, cat_i, cat_j]) ?_
        refine k_goto cx 2 dX11_lays_28 (by decide) ?_
        refine k_sub [1, 2, 0] rfl ?_
        exact ihx2 _ _ h
  refine k_sub [1, 2, 0] rfl ?_
  exact KLx2 FU _ _ hxx2
set_option maxRecDepth 100000 in
set_option maxHeartbeats 4000000 in
theorem w_X11_insert {Γ : GE} {σ : St} {t : Nat} {p1 : Int32} {ρ : Int32 × St} (hk : hpK σ t = 11) (h : f_X11_insert σ t p1 = some ρ) : Ct Γ yX11_insert cX11_insert 3 (some .int) 4 84 [va_rf (some t), .int p1] σ (some (.int ρ.1)) ρ.2 := by
  refine ct_intro (own := RX11) (L0 := [(0, va_rf (some t)), (1, .int p1)]) (by decide +kernel) rfl (by simp [lg_sl, cat_rf, cat_i, cat_j]) (by simp [lv_args, cat_rf, cat_i, cat_j]) ?_
  intro p l e s m args below meth c hr hlk hin cx
  have hk0 := dn_eq hk
  unfold f_X11_insert at h
  refine k_iload_n cx 1 dX11_insert_0 rfl rfl ?_
  refine k_iconst cx 0 dX11_insert_1 (by decide) ?_
  refine k_aload_n cx 0 dX11_insert_2 rfl rfl ?_
  refine q_getR cx fl_X11_7 hk0 dX11_insert_3 ?_
  refine k_sipush cx 2040 dX11_insert_6 (by decide) ?_
  obtain ⟨a1, g2, h⟩ := bind_ok h
  obtain ⟨j3, g4, h⟩ := bind_ok h
  refine k_iald cx g2 g4 dX11_insert_9 ?_
  obtain ⟨q5, g6, h⟩ := bind_ok h
  refine k_callS cx iv_X11_62 (w_X11_in g6) (As := [.int p1, .int 0, .int (hpA σ a1 j3)]) rfl rfl ⟨Nat.le_of_ble_eq_true rfl, Nat.le_of_ble_eq_true rfl⟩ (by simp [cat_rf, cat_i, cat_j]) dX11_insert_10 ?_
  refine k_if_ne cx 19 dX11_insert_13 (by decide) (fun c7 => ?_) (fun c7 => ?_)
  · have h := ite_t h c7
    refine k_aload_n cx 0 dX11_insert_19 rfl rfl ?_
    obtain ⟨q8, g9, h⟩ := bind_ok h
    refine k_callV cx iv_X11_113 (ci := 11) rfl (by decide) (w_X11_readsLine (dn_some hk0).2 g9) hk0 (As := []) rfl rfl ⟨Nat.le_of_ble_eq_true rfl, Nat.le_of_ble_eq_true rfl⟩ (by simp [cat_rf, cat_i, cat_j]) dX11_insert_20 ?_
    refine k_aload_n cx 0 dX11_insert_23 rfl rfl ?_
    obtain ⟨a10, g11, h⟩ := bind_ok h
    refine q_getI cx fl_X11_83 g11 dX11_insert_24 ?_
    refine k_iconst cx (-1) dX11_insert_27 (by decide) ?_
    refine k_icmp_eq cx 40 dX11_insert_28 (by decide) (fun c12 => ?_) (fun c12 => ?_)
    · have h := ite_t h c12
      refine k_aload_n cx 0 dX11_insert_40 rfl rfl ?_
      refine q_getR cx fl_X11_7 g11 dX11_insert_41 ?_
      refine k_sipush cx 2040 dX11_insert_44 (by decide) ?_
      obtain ⟨a13, g14, h⟩ := bind_ok h
      obtain ⟨j15, g16, h⟩ := bind_ok h
      refine k_iald cx g14 g16 dX11_insert_47 ?_
      refine k_bipush cx 24 dX11_insert_48 (by decide) ?_
      refine k_icmp_ne cx 56 dX11_insert_50 (by decide) (fun c17 => ?_) (fun c17 => ?_)
      · have h := ite_t h c17
        refine k_aload_n cx 0 dX11_insert_56 rfl rfl ?_
        obtain ⟨q18, g19, h⟩ := bind_ok h
        refine k_callV cx iv_X11_116 (ci := 11) rfl (by decide) (w_X11_keeps (dn_some g11).2 g19) g11 (As := []) rfl rfl ⟨Nat.le_of_ble_eq_true rfl, Nat.le_of_ble_eq_true rfl⟩ (by simp [cat_rf, cat_i, cat_j]) dX11_insert_57 ?_
        refine k_aload_n cx 0 dX11_insert_60 rfl rfl ?_
        obtain ⟨a20, g21, h⟩ := bind_ok h
        refine q_getR cx fl_X11_7 g21 dX11_insert_61 ?_
        refine k_sipush cx 2040 dX11_insert_64 (by decide) ?_
        obtain ⟨a22, g23, h⟩ := bind_ok h
        obtain ⟨j24, g25, h⟩ := bind_ok h
        refine k_iald cx g23 g25 dX11_insert_67 ?_
        refine k_istore_n cx (i := 2) [(2, .int (hpA q18 a22 j24)), (0, va_rf (some t)), (1, .int p1)] dX11_insert_68 rfl (by decide) (by simp [cat_rf, cat_i, cat_j]) ?_
        obtain ⟨x27, hxx27, h⟩ := bind_ok h
        have Kx27 : Og p l e s m args below meth c Γ 3 4 84 σ (some (.int ρ.1)) ρ.2 88 [(0, va_rf (some t)), (1, .int p1)] [] x27 := by
          refine k_aload_n cx 0 dX11_insert_88 rfl rfl ?_
          refine k_iload_n cx 1 dX11_insert_89 rfl rfl ?_
          obtain ⟨a33, g34, h⟩ := bind_ok h
          obtain ⟨q35, g36, h⟩ := bind_ok h
          refine k_callV cx iv_X11_123 (ci := 11) rfl (by decide) (w_X11_lays (dn_some g34).2 g36) g34 (As := [.int p1]) rfl rfl ⟨Nat.le_of_ble_eq_true rfl, Nat.le_of_ble_eq_true rfl⟩ (by simp [cat_rf, cat_i, cat_j]) dX11_insert_90 ?_
          refine k_aload_n cx 0 dX11_insert_93 rfl rfl ?_
          obtain ⟨a37, g38, h⟩ := bind_ok h
          refine q_getR cx fl_X11_7 g38 dX11_insert_94 ?_
          refine k_sipush cx 2040 dX11_insert_97 (by decide) ?_
          refine k_dup2 cx (by simp [cat_rf, cat_i, cat_j]) (by simp [cat_rf, cat_i, cat_j]) dX11_insert_100 ?_
          obtain ⟨a39, g40, h⟩ := bind_ok h
          obtain ⟨j41, g42, h⟩ := bind_ok h
          refine k_iald cx g40 g42 dX11_insert_101 ?_
          refine k_iconst cx 1 dX11_insert_102 (by decide) ?_
          refine k_iadd cx dX11_insert_103 ?_
          obtain ⟨a43, g44, h⟩ := bind_ok h
          obtain ⟨j45, g46, h⟩ := bind_ok h
          refine k_iast cx g44 g46 dX11_insert_104 ?_
          refine k_aload_n cx 0 dX11_insert_105 rfl rfl ?_
          refine q_getR cx fl_X11_7 g38 dX11_insert_106 ?_
          refine k_sipush cx 2040 dX11_insert_109 (by decide) ?_
          obtain ⟨a47, g48, h⟩ := bind_ok h
          obtain ⟨j49, g50, h⟩ := bind_ok h
          refine k_iald cx g48 g50 dX11_insert_112 ?_
          have h := Option.some.inj h
          exact k_iret cx hr hlk (by rw [← h]) (by rw [← h]) dX11_insert_113
        have KLx27 : ∀ (n : Nat) (v2 : Int32) (τ : St), LX11_insert_69 n t p1 v2 τ = some x27 → Og p l e s m args below meth c Γ 3 4 84 σ (some (.int ρ.1)) ρ.2 69 [(0, va_rf (some t)), (1, .int p1), (2, .int v2)] [] τ := by
          intro n
          induction n with
          | zero => intro _ _ h; cases (show (none : Option _) = some x27 from h)
          | succ n ihx27 =>
            intro v2 τ h
            rw [LX11_insert_69] at h
            refine k_iload_n cx 2 dX11_insert_69 rfl rfl ?_
            refine k_iload_n cx 1 dX11_insert_70 rfl rfl ?_
            refine k_icmp_le cx 88 dX11_insert_71 (by decide) (fun c28 => ?_) (fun c28 => ?_)
            · have h := ite_t h c28
              refine k_sub [0, 1] rfl ?_
              obtain rfl := Option.some.inj h
              exact Kx27
            · have h := ite_f h c28
              refine k_aload_n cx 0 dX11_insert_74 rfl rfl ?_
              refine k_iload_n cx 2 dX11_insert_75 rfl rfl ?_
              refine k_iconst cx 1 dX11_insert_76 (by decide) ?_
              refine k_isub cx dX11_insert_77 ?_
              refine k_iload_n cx 2 dX11_insert_78 rfl rfl ?_
              obtain ⟨a29, g30, h⟩ := bind_ok h
              obtain ⟨q31, g32, h⟩ := bind_ok h
              refine k_callV cx iv_X11_119 (ci := 11) rfl (by decide) (w_X11_copies (dn_some g30).2 g32) g30 (As := [.int (v2 - 1), .int v2]) rfl rfl ⟨Nat.le_of_ble_eq_true rfl, Nat.le_of_ble_eq_true rfl⟩ (by simp [cat_rf, cat_i, cat_j]) dX11_insert_79 ?_
              refine k_iinc cx 2 [(2, .int (v2 + (-1))), (0, va_rf (some t)), (1, .int p1)] (v2 + (-1)) dX11_insert_82 rfl rfl (by decide) (by simp [cat_rf, cat_i, cat_j]) ?_
              refine k_goto cx 69 dX11_insert_85 (by decide) ?_
              refine k_sub [1, 2, 0] rfl ?_
              exact ihx27 _ _ h
        refine k_sub [1, 2, 0] rfl ?_
        exact KLx27 FU _ _ hxx27
      · have h := ite_f h c17
        refine k_bipush cx (-4) dX11_insert_53 (by decide) ?_
        have h := Option.some.inj h
        exact k_iret cx hr hlk (by rw [← h]) (by rw [← h]) dX11_insert_55
    · have h := ite_f h c12
      refine k_sipush cx (-2000) dX11_insert_31 (by decide) ?_
      refine k_aload_n cx 0 dX11_insert_34 rfl rfl ?_
      refine q_getI cx fl_X11_83 g11 dX11_insert_35 ?_
      refine k_isub cx dX11_insert_38 ?_
      have h := Option.some.inj h
      exact k_iret cx hr hlk (by rw [← h]) (by rw [← h]) dX11_insert_39
  · have h := ite_f h c7
    refine k_bipush cx (-2) dX11_insert_16 (by decide) ?_
    have h := Option.some.inj h
    exact k_iret cx hr hlk (by rw [← h]) (by rw [← h]) dX11_insert_18
set_option maxRecDepth 100000 in
set_option maxHeartbeats 4000000 in
theorem w_X11_replace {Γ : GE} {σ : St} {t : Nat} {p1 : Int32} {ρ : Int32 × St} (hk : hpK σ t = 11) (h : f_X11_replace σ t p1 = some ρ) : Ct Γ yX11_replace cX11_replace 3 (some .int) 4 84 [va_rf (some t), .int p1] σ (some (.int ρ.1)) ρ.2 := by
  refine ct_intro (own := RX11) (L0 := [(0, va_rf (some t)), (1, .int p1)]) (by decide +kernel) rfl (by simp [lg_sl, cat_rf, cat_i, cat_j]) (by simp [lv_args, cat_rf, cat_i, cat_j]) ?_
  intro p l e s m args below meth c hr hlk hin cx
  have hk0 := dn_eq hk
  unfold f_X11_replace at h
  refine k_aload_n cx 0 dX11_replace_0 rfl rfl ?_
  refine k_iload_n cx 1 dX11_replace_1 rfl rfl ?_
  obtain ⟨q1, g2, h⟩ := bind_ok h
  refine k_callV cx iv_X11_127 (ci := 11) rfl (by decide) (w_X11_isLine (dn_some hk0).2 g2) hk0 (As := [.int p1]) rfl rfl ⟨Nat.le_of_ble_eq_true rfl, Nat.le_of_ble_eq_true rfl⟩ (by simp [cat_rf, cat_i, cat_j]) dX11_replace_2 ?_
  refine k_if_ne cx 11 dX11_replace_5 (by decide) (fun c3 => ?_) (fun c3 => ?_)
  · have h := ite_t h c3
    refine k_aload_n cx 0 dX11_replace_11 rfl rfl ?_
    obtain ⟨q4, g5, h⟩ := bind_ok h
    refine k_callV cx iv_X11_113 (ci := 11) rfl (by decide) (w_X11_readsLine (dn_some hk0).2 g5) hk0 (As := []) rfl rfl ⟨Nat.le_of_ble_eq_true rfl, Nat.le_of_ble_eq_true rfl⟩ (by simp [cat_rf, cat_i, cat_j]) dX11_replace_12 ?_
    refine k_aload_n cx 0 dX11_replace_15 rfl rfl ?_
    obtain ⟨a6, g7, h⟩ := bind_ok h
    refine q_getI cx fl_X11_83 g7 dX11_replace_16 ?_
    refine k_iconst cx (-1) dX11_replace_19 (by decide) ?_
    refine k_icmp_eq cx 32 dX11_replace_20 (by decide) (fun c8 => ?_) (fun c8 => ?_)
    · have h := ite_t h c8
      refine k_aload_n cx 0 dX11_replace_32 rfl rfl ?_
      obtain ⟨q9, g10, h⟩ := bind_ok h
      refine k_callV cx iv_X11_116 (ci := 11) rfl (by decide) (w_X11_keeps (dn_some g7).2 g10) g7 (As := []) rfl rfl ⟨Nat.le_of_ble_eq_true rfl, Nat.le_of_ble_eq_true rfl⟩ (by simp [cat_rf, cat_i, cat_j]) dX11_replace_33 ?_
      refine k_aload_n cx 0 dX11_replace_36 rfl rfl ?_
      refine k_iload_n cx 1 dX11_replace_37 rfl rfl ?_
      refine k_iconst cx 1 dX11_replace_38 (by decide) ?_
      obtain ⟨a11, g12, h⟩ := bind_ok h
      obtain ⟨q13, g14, h⟩ := bind_ok h
      refine k_callV cx iv_X11_130 (ci := 11) rfl (by decide) (w_X11_of (dn_some g12).2 g14) g12 (As := [.int p1, .int 1]) rfl rfl ⟨Nat.le_of_ble_eq_true rfl, Nat.le_of_ble_eq_true rfl⟩ (by simp [cat_rf, cat_i, cat_j]) dX11_replace_39 ?_
      refine k_istore_n cx (i := 2) [(2, .int q13), (0, va_rf (some t)), (1, .int p1)] dX11_replace_42 rfl (by decide) (by simp [cat_rf, cat_i, cat_j]) ?_
      refine k_aload_n cx 1 dX11_replace_43 rfl rfl ?_
      refine k_iload_n cx 2 dX11_replace_44 rfl rfl ?_
      obtain ⟨q15, g16, h⟩ := bind_ok h
      refine k_callV cx iv_X11_123 (ci := 11) rfl (by decide) (w_X11_lays (dn_some g12).2 g16) g12 (As := [.int p1]) rfl rfl ⟨Nat.le_of_ble_eq_true rfl, Nat.le_of_ble_eq_true rfl⟩ (by simp [cat_rf, cat_i, cat_j]) dX11_replace_45 ?_
      refine k_iload_n cx 0 dX11_replace_48 rfl rfl ?_
      have h := Option.some.inj h
      exact k_iret cx hr hlk (by rw [← h]) (by rw [← h]) dX11_replace_49
    · have h := ite_f h c8
      refine k_sipush cx (-2000) dX11_replace_23 (by decide) ?_
      refine k_aload_n cx 0 dX11_replace_26 rfl rfl ?_
      refine q_getI cx fl_X11_83 g7 dX11_replace_27 ?_
      refine k_isub cx dX11_replace_30 ?_
      have h := Option.some.inj h
      exact k_iret cx hr hlk (by rw [← h]) (by rw [← h]) dX11_replace_31
  · have h := ite_f h c3
    refine k_bipush cx (-2) dX11_replace_8 (by decide) ?_
    have h := Option.some.inj h
    exact k_iret cx hr hlk (by rw [← h]) (by rw [← h]) dX11_replace_10
set_option maxRecDepth 100000 in
set_option maxHeartbeats 4000000 in
theorem w_X11_drops {Γ : GE} {σ : St} {t : Nat} {p1 : Int32} {ρ : St} (hk : hpK σ t = 11) (h : f_X11_drops σ t p1 = some ρ) : Ct Γ yX11_drops cX11_drops 3 none 1 23 [va_rf (some t), .int p1] σ none ρ := by
  refine ct_intro (own := RX11) (L0 := [(0, va_rf (some t)), (1, .int p1)]) (by decide +kernel) rfl (by simp [lg_sl, cat_rf, cat_i, cat_j]) (by simp [lv_args, cat_rf, cat_i, cat_j]) ?_
  intro p l e s m args below meth c hr hlk hin cx
  have hk0 := dn_eq hk
  unfold f_X11_drops at h
  refine k_aload_n cx 0 dX11_drops_0 rfl rfl ?_
  refine q_getR cx fl_X11_7 hk0 dX11_drops_1 ?_
  refine k_sipush cx 2040 dX11_drops_4 (by decide) ?_
  refine k_dup2 cx (by simp [cat_rf, cat_i, cat_j]) (by simp [cat_rf, cat_i, cat_j]) dX11_drops_7 ?_
  obtain ⟨a1, g2, h⟩ := bind_ok h
  obtain ⟨j3, g4, h⟩ := bind_ok h
  refine k_iald cx g2 g4 dX11_drops_8 ?_
  refine k_iconst cx 1 dX11_drops_9 (by decide) ?_
  refine k_isub cx dX11_drops_10 ?_
  obtain ⟨a5, g6, h⟩ := bind_ok h
  obtain ⟨j7, g8, h⟩ := bind_ok h
  refine k_iast cx g6 g8 dX11_drops_11 ?_
  refine k_iload_n cx 1 dX11_drops_12 rfl rfl ?_
  refine k_istore_n cx (i := 2) [(2, .int p1), (0, va_rf (some t)), (1, .int p1)] dX11_drops_13 rfl (by decide) (by simp [cat_rf, cat_i, cat_j]) ?_
  obtain ⟨x10, hxx10, h⟩ := bind_ok h
  have Kx10 : Og p l e s m args below meth c Γ 3 1 23 σ none ρ 40 [] [] x10 := by
    have h := Option.some.inj h
    exact k_vret cx hr hlk rfl (by rw [← h]) dX11_drops_40
  have KLx10 : ∀ (n : Nat) (v2 : Int32) (τ : St), LX11_drops_14 n t v2 τ = some x10 → Og p l e s m args below meth c Γ 3 1 23 σ none ρ 14 [(0, va_rf (some t)), (2, .int v2)] [] τ := by
    intro n
    induction n with
    | zero => intro _ _ h; cases (show (none : Option _) = some x10 from h)
    | succ n ihx10 =>
      intro v2 τ h
      rw [LX11_drops_14] at h
      refine k_iload_n cx 1 dX11_drops_14 rfl rfl ?_
      refine k_aload_n cx 0 dX11_drops_15 rfl rfl ?_
      obtain ⟨a11, g12, h⟩ := bind_ok h
      refine q_getR cx fl_X11_7 g12 dX11_drops_16 ?_
      refine k_sipush cx 2040 dX11_drops_19 (by decide) ?_
      obtain ⟨a13, g14, h⟩ := bind_ok h
      obtain ⟨j15, g16, h⟩ := bind_ok h
      refine k_iald cx g14 g16 dX11_drops_22 ?_
      refine k_icmp_ge cx 40 dX11_drops_23 (by decide) (fun c17 => ?_) (fun c17 => ?_)
      · have h := ite_t h c17
        refine k_sub [] rfl ?_
        obtain rfl := Option.some.inj h
        exact Kx10
      · have h := ite_f h c17
        refine k_aload_n cx 0 dX11_drops_26 rfl rfl ?_
        refine k_iload_n cx 1 dX11_drops_27 rfl rfl ?_
        refine k_iconst cx 1 dX11_drops_28 (by decide) ?_
        refine k_iadd cx dX11_drops_29 ?_
        refine k_iload_n cx 1 dX11_drops_30 rfl rfl ?_
        obtain ⟨q18, g19, h⟩ := bind_ok h
        refine k_callV cx iv_X11_119 (ci := 11) rfl (by decide) (w_X11_copies (dn_some g12).2 g19) g12 (As := [.int (v2 + 1), .int v2]) rfl rfl ⟨Nat.le_of_ble_eq_true rfl, Nat.le_of_ble_eq_true rfl⟩ (by simp [cat_rf, cat_i, cat_j]) dX11_drops_31 ?_
        refine k_iinc cx 1 [(2, .int (v2 + 1)), (0, va_rf (some t))] (v2 + 1) dX11_drops_34 rfl rfl (by decide) (by simp [cat_rf, cat_i, cat_j]) ?_
        refine k_goto cx 14 dX11_drops_37 (by decide) ?_
        refine k_sub [1, 0] rfl ?_
        exact ihx10 _ _ h
  refine k_sub [1, 0] rfl ?_
  exact KLx10 FU _ _ hxx10
set_option maxRecDepth 100000 in
set_option maxHeartbeats 4000000 in
theorem w_X11_remove {Γ : GE} {σ : St} {t : Nat} {p1 : Int32} {ρ : Int32 × St} (hk : hpK σ t = 11) (h : f_X11_remove σ t p1 = some ρ) : Ct Γ yX11_remove cX11_remove 2 (some .int) 2 45 [va_rf (some t), .int p1] σ (some (.int ρ.1)) ρ.2 := by
  refine ct_intro (own := RX11) (L0 := [(0, va_rf (some t)), (1, .int p1)]) (by decide +kernel) rfl (by simp [lg_sl, cat_rf, cat_i, cat_j]) (by simp [lv_args, cat_rf, cat_i, cat_j]) ?_
  intro p l e s m args below meth c hr hlk hin cx
  have hk0 := dn_eq hk
  unfold f_X11_remove at h
  refine k_aload_n cx 0 dX11_remove_0 rfl rfl ?_
  refine k_iload_n cx 1 dX11_remove_1 rfl rfl ?_
  obtain ⟨q1, g2, h⟩ := bind_ok h
  refine k_callV cx iv_X11_127 (ci := 11) rfl (by decide) (w_X11_isLine (dn_some hk0).2 g2) hk0 (As := [.int p1]) rfl rfl ⟨Nat.le_of_ble_eq_true rfl, Nat.le_of_ble_eq_true rfl⟩ (by simp [cat_rf, cat_i, cat_j]) dX11_remove_2 ?_
  refine k_if_ne cx 11 dX11_remove_5 (by decide) (fun c3 => ?_) (fun c3 => ?_)
  · have h := ite_t h c3
    refine k_aload_n cx 0 dX11_remove_11 rfl rfl ?_
    obtain ⟨q4, g5, h⟩ := bind_ok h
    refine k_callV cx iv_X11_116 (ci := 11) rfl (by decide) (w_X11_keeps (dn_some hk0).2 g5) hk0 (As := []) rfl rfl ⟨Nat.le_of_ble_eq_true rfl, Nat.le_of_ble_eq_true rfl⟩ (by simp [cat_rf, cat_i, cat_j]) dX11_remove_12 ?_
    refine k_aload_n cx 0 dX11_remove_15 rfl rfl ?_
    refine k_iload_n cx 1 dX11_remove_16 rfl rfl ?_
    obtain ⟨a6, g7, h⟩ := bind_ok h
    obtain ⟨q8, g9, h⟩ := bind_ok h
    refine k_callV cx iv_X11_134 (ci := 11) rfl (by decide) (w_X11_drops (dn_some g7).2 g9) g7 (As := [.int p1]) rfl rfl ⟨Nat.le_of_ble_eq_true rfl, Nat.le_of_ble_eq_true rfl⟩ (by simp [cat_rf, cat_i, cat_j]) dX11_remove_17 ?_
    refine k_aload_n cx 0 dX11_remove_20 rfl rfl ?_
    obtain ⟨a10, g11, h⟩ := bind_ok h
    refine q_getR cx fl_X11_7 g11 dX11_remove_21 ?_
    refine k_sipush cx 2040 dX11_remove_24 (by decide) ?_
    obtain ⟨a12, g13, h⟩ := bind_ok h
    obtain ⟨j14, g15, h⟩ := bind_ok h
    refine k_iald cx g13 g15 dX11_remove_27 ?_
    have h := Option.some.inj h
    exact k_iret cx hr hlk (by rw [← h]) (by rw [← h]) dX11_remove_28
  · have h := ite_f h c3
    refine k_bipush cx (-2) dX11_remove_8 (by decide) ?_
    have h := Option.some.inj h
    exact k_iret cx hr hlk (by rw [← h]) (by rw [← h]) dX11_remove_10
set_option maxRecDepth 100000 in
set_option maxHeartbeats 4000000 in
theorem w_X11_beginsStanza {Γ : GE} {σ : St} {t : Nat} {p1 : Int32} {ρ : Int32} (hk : hpK σ t = 11) (h : f_X11_beginsStanza σ t p1 = some ρ) : Ct Γ yX11_beginsStanza cX11_beginsStanza 2 (some .boolean) 1 22 [va_rf (some t), .int p1] σ (some (.int ρ)) σ := by
  refine ct_intro (own := RX11) (L0 := [(0, va_rf (some t)), (1, .int p1)]) (by decide +kernel) rfl (by simp [lg_sl, cat_rf, cat_i, cat_j]) (by simp [lv_args, cat_rf, cat_i, cat_j]) ?_
  intro p l e s m args below meth c hr hlk hin cx
  have hk0 := dn_eq hk
  unfold f_X11_beginsStanza at h
  refine k_iload_n cx 1 dX11_beginsStanza_0 rfl rfl ?_
  refine k_if_eq cx 16 dX11_beginsStanza_1 (by decide) (fun c1 => ?_) (fun c1 => ?_)
  · have h := ite_t h c1
    refine k_iconst cx 1 dX11_beginsStanza_16 (by decide) ?_
    refine k_goto cx 21 dX11_beginsStanza_17 (by decide) ?_
    have h := Option.some.inj h
    exact k_zret cx hr hlk gz_1 (by rw [← h]) rfl dX11_beginsStanza_21
  · have h := ite_f h c1
    refine k_aload_n cx 0 dX11_beginsStanza_4 rfl rfl ?_
    refine k_iload_n cx 1 dX11_beginsStanza_5 rfl rfl ?_
    refine k_iconst cx 1 dX11_beginsStanza_6 (by decide) ?_
    refine k_isub cx dX11_beginsStanza_7 ?_
    refine k_iconst cx 4 dX11_beginsStanza_8 (by decide) ?_
    obtain ⟨q2, g3, h⟩ := bind_ok h
    refine k_callV cx iv_X11_130 (ci := 11) rfl (by decide) (w_X11_of (dn_some hk0).2 g3) hk0 (As := [.int (p1 - 1), .int 4]) rfl rfl ⟨Nat.le_of_ble_eq_true rfl, Nat.le_of_ble_eq_true rfl⟩ (by simp [cat_rf, cat_i, cat_j]) dX11_beginsStanza_9 ?_
    refine k_iconst cx 1 dX11_beginsStanza_12 (by decide) ?_
    refine k_icmp_ne cx 20 dX11_beginsStanza_13 (by decide) (fun c4 => ?_) (fun c4 => ?_)
    · have h := ite_t h c4
      refine k_iconst cx 0 dX11_beginsStanza_20 (by decide) ?_
      have h := Option.some.inj h
      exact k_zret cx hr hlk gz_0 (by rw [← h]) rfl dX11_beginsStanza_21
    · have h := ite_f h c4
      refine k_iconst cx 1 dX11_beginsStanza_16 (by decide) ?_
      refine k_goto cx 21 dX11_beginsStanza_17 (by decide) ?_
      have h := Option.some.inj h
      exact k_zret cx hr hlk gz_1 (by rw [← h]) rfl dX11_beginsStanza_21
set_option maxRecDepth 100000 in
set_option maxHeartbeats 4000000 in
theorem w_X11_stanzaOf {Γ : GE} {σ : St} {t : Nat} {p1 : Int32} {ρ : Int32} (hk : hpK σ t = 11) (h : f_X11_stanzaOf σ t p1 = some ρ) : Ct Γ yX11_stanzaOf cX11_stanzaOf 4 (some .int) 2 43 [va_rf (some t), .int p1] σ (some (.int ρ)) σ := by
  refine ct_intro (own := RX11) (L0 := [(0, va_rf (some t)), (1, .int p1)]) (by decide +kernel) rfl (by simp [lg_sl, cat_rf, cat_i, cat_j]) (by simp [lv_args, cat_rf, cat_i, cat_j]) ?_
  intro p l e s m args below meth c hr hlk hin cx
  have hk0 := dn_eq hk
  unfold f_X11_stanzaOf at h
  refine k_iconst cx (-1) dX11_stanzaOf_0 (by decide) ?_
  refine k_istore_n cx (i := 2) [(2, .int (-1)), (0, va_rf (some t)), (1, .int p1)] dX11_stanzaOf_1 rfl (by decide) (by simp [cat_rf, cat_i, cat_j]) ?_
  refine k_iconst cx 0 dX11_stanzaOf_2 (by decide) ?_
  refine k_istore_n cx (i := 3) [(3, .int 0), (2, .int (-1)), (0, va_rf (some t)), (1, .int p1)] dX11_stanzaOf_3 rfl (by decide) (by simp [cat_rf, cat_i, cat_j]) ?_
  obtain ⟨x2, hxx2, h⟩ := bind_ok h
  have Kx2 : Og p l e s m args below meth c Γ 4 2 43 σ (some (.int ρ)) σ 31 [(2, .int x2)] [] σ := by
    refine k_iload_n cx 0 dX11_stanzaOf_31 rfl rfl ?_
    have h := Option.some.inj h
    exact k_iret cx hr hlk (by rw [← h]) rfl dX11_stanzaOf_32
  have KLx2 : ∀ (n : Nat) (v2 : Int32) (v3 : Int32), LX11_stanzaOf_4 n σ t p1 v2 v3 = some x2 → Og p l e s m args below meth c Γ 4 2 43 σ (some (.int ρ)) σ 4 [(0, va_rf (some t)), (1, .int p1), (2, .int v2), (3, .int v3)] [] σ := by
    intro n
    induction n with
    | zero => intro _ _ h; cases (show (none : Option _) = some x2 from h)
    | succ n ihx2 =>
      intro v2 v3 h
      rw [LX11_stanzaOf_4] at h
      refine k_iload_n cx 3 dX11_stanzaOf_4 rfl rfl ?_
      refine k_iload_n cx 1 dX11_stanzaOf_5 rfl rfl ?_
      refine k_icmp_gt cx 31 dX11_stanzaOf_6 (by decide) (fun c3 => ?_) (fun c3 => ?_)
      · have h := ite_t h c3
        refine k_sub [2] rfl ?_
        obtain rfl := Option.some.inj h
        exact Kx2
      · have h := ite_f h c3
        refine k_iload_n cx 2 dX11_stanzaOf_9 rfl rfl ?_
        refine k_aload_n cx 0 dX11_stanzaOf_10 rfl rfl ?_
        refine k_iload_n cx 3 dX11_stanzaOf_11 rfl rfl ?_
        obtain ⟨q4, g5, h⟩ := bind_ok h
        refine k_callV cx iv_X11_140 (ci := 11) rfl (by decide) (w_X11_beginsStanza (dn_some hk0).2 g5) hk0 (As := [.int v3]) rfl rfl ⟨Nat.le_of_ble_eq_true rfl, Nat.le_of_ble_eq_true rfl⟩ (by simp [cat_rf, cat_i, cat_j]) dX11_stanzaOf_12 ?_
        obtain ⟨x6, hxx6, h⟩ := bind_ok h
        have Kx6 : Og p l e s m args below meth c Γ 4 2 43 σ (some (.int ρ)) σ 23 [(0, va_rf (some t)), (1, .int p1), (3, .int v3)] [.int x6, .int v2] σ := by
          refine k_iadd cx dX11_stanzaOf_23 ?_
          refine k_istore_n cx (i := 2) [(2, .int (v2 + x6)), (0, va_rf (some t)), (1, .int p1), (3, .int v3)] dX11_stanzaOf_24 rfl (by decide) (by simp [cat_rf, cat_i, cat_j]) ?_
          refine k_iinc cx 3 [(3, .int (v3 + 1)), (2, .int (v2 + x6)), (0, va_rf (some t)), (1, .int p1)] (v3 + 1) dX11_stanzaOf_25 rfl rfl (by decide) (by simp [cat_rf, cat_i, cat_j]) ?_
          refine k_goto cx 4 dX11_stanzaOf_28 (by decide) ?_
          refine k_sub [2, 3, 1, 0] rfl ?_
          exact ihx2 _ _ h
        have h := hxx6
        refine k_if_eq cx 22 dX11_stanzaOf_15 (by decide) (fun c7 => ?_) (fun c7 => ?_)
        · have h := ite_t h c7
          refine k_iconst cx 0 dX11_stanzaOf_22 (by decide) ?_
          refine k_sub [0, 1, 3] rfl ?_
          obtain rfl := Option.some.inj h
          exact Kx6
        · have h := ite_f h c7
          refine k_iconst cx 1 dX11_stanzaOf_18 (by decide) ?_
          refine k_goto cx 23 dX11_stanzaOf_19 (by decide) ?_
          refine k_sub [0, 1, 3] rfl ?_
          obtain rfl := Option.some.inj h
          exact Kx6
  refine k_sub [2, 3, 1, 0] rfl ?_
  exact KLx2 FU _ _ hxx2
set_option maxRecDepth 100000 in
set_option maxHeartbeats 4000000 in
theorem w_X11_stanzas {Γ : GE} {σ : St} {t : Nat} {ρ : Int32} (hk : hpK σ t = 11) (h : f_X11_stanzas σ t = some ρ) : Ct Γ yX11_stanzas cX11_stanzas 1 (some .int) 3 66 [va_rf (some t)] σ (some (.int ρ)) σ := by
  refine ct_intro (own := RX11) (L0 := [(0, va_rf (some t))]) (by decide +kernel) rfl (by simp [lg_sl, cat_rf, cat_i, cat_j]) (by simp [lv_args, cat_rf, cat_i, cat_j]) ?_
  intro p l e s m args below meth c hr hlk hin cx
  have hk0 := dn_eq hk
  unfold f_X11_stanzas at h
  refine k_aload_n cx 0 dX11_stanzas_0 rfl rfl ?_
  refine q_getR cx fl_X11_7 hk0 dX11_stanzas_1 ?_
  refine k_sipush cx 2040 dX11_stanzas_4 (by decide) ?_
  obtain ⟨a1, g2, h⟩ := bind_ok h
  obtain ⟨j3, g4, h⟩ := bind_ok h
  refine k_iald cx g2 g4 dX11_stanzas_7 ?_
  refine k_if_ne cx 15 dX11_stanzas_8 (by decide) (fun c5 => ?_) (fun c5 => ?_)
  · have h := ite_t h c5
    refine k_aload_n cx 0 dX11_stanzas_15 rfl rfl ?_
    refine k_aload_n cx 0 dX11_stanzas_16 rfl rfl ?_
    refine q_getR cx fl_X11_7 hk0 dX11_stanzas_17 ?_
    refine k_sipush cx 2040 dX11_stanzas_20 (by decide) ?_
    obtain ⟨j6, g7, h⟩ := bind_ok h
    refine k_iald cx g2 g7 dX11_stanzas_23 ?_
    refine k_iconst cx 1 dX11_stanzas_24 (by decide) ?_
    refine k_isub cx dX11_stanzas_25 ?_
    obtain ⟨q8, g9, h⟩ := bind_ok h
    refine k_callV cx iv_X11_143 (ci := 11) rfl (by decide) (w_X11_stanzaOf (dn_some hk0).2 g9) hk0 (As := [.int ((hpA σ a1 j6) - 1)]) rfl rfl ⟨Nat.le_of_ble_eq_true rfl, Nat.le_of_ble_eq_true rfl⟩ (by simp [cat_rf, cat_i, cat_j]) dX11_stanzas_26 ?_
    refine k_iconst cx 1 dX11_stanzas_29 (by decide) ?_
    refine k_iadd cx dX11_stanzas_30 ?_
    have h := Option.some.inj h
    exact k_iret cx hr hlk (by rw [← h]) rfl dX11_stanzas_31
  · have h := ite_f h c5
    refine k_iconst cx 0 dX11_stanzas_11 (by decide) ?_
    refine k_goto cx 31 dX11_stanzas_12 (by decide) ?_
    have h := Option.some.inj h
    exact k_iret cx hr hlk (by rw [← h]) rfl dX11_stanzas_31
set_option maxRecDepth 100000 in
set_option maxHeartbeats 4000000 in
theorem w_X11_move {Γ : GE} {σ : St} {t : Nat} {p1 : Int32} {p2 : Int32} {p3 : Int32} {ρ : Int32 × St} (hk : hpK σ t = 11) (h : f_X11_move σ t p1 p2 p3 = some ρ) : Ct Γ yX11_move cX11_move 8 (some .int) 4 86 [va_rf (some t), .int p1, .int p2, .int p3] σ (some (.int ρ.1)) ρ.2 := by
  refine ct_intro (own := RX11) (L0 := [(0, va_rf (some t)), (1, .int p1), (2, .int p2), (3, .int p3)]) (by decide +kernel) rfl (by simp [lg_sl, cat_rf, cat_i, cat_j]) (by simp [lv_args, cat_rf, cat_i, cat_j]) ?_
  intro p l e s m args below meth c hr hlk hin cx
  have hk0 := dn_eq hk
  unfold f_X11_move at h
  refine k_aload_n cx 0 dX11_move_0 rfl rfl ?_
  refine k_iload_n cx 1 dX11_move_1 rfl rfl ?_
  obtain ⟨q1, g2, h⟩ := bind_ok h
  refine k_callV cx iv_X11_127 (ci := 11) rfl (by decide) (w_X11_isLine (dn_some hk0).2 g2) hk0 (As := [.int p1]) rfl rfl ⟨Nat.le_of_ble_eq_true rfl, Nat.le_of_ble_eq_true rfl⟩ (by simp [cat_rf, cat_i, cat_j]) dX11_move_2 ?_
  refine k_if_eq cx 44 dX11_move_5 (by decide) (fun c3 => ?_) (fun c3 => ?_)
  · have h := ite_t h c3
    refine k_bipush cx (-2) dX11_move_44 (by decide) ?_
    have h := Option.some.inj h
    exact k_iret cx hr hlk (by rw [← h]) (by rw [← h]) dX11_move_46
  · have h := ite_f h c3
    refine k_iload_n cx 2 dX11_move_8 rfl rfl ?_
    refine k_iconst cx 1 dX11_move_9 (by decide) ?_
    refine k_aload_n cx 0 dX11_move_10 rfl rfl ?_
    refine q_getR cx fl_X11_7 hk0 dX11_move_11 ?_
    refine k_sipush cx 2040 dX11_move_14 (by decide) ?_
    obtain ⟨a4, g5, h⟩ := bind_ok h
    obtain ⟨j6, g7, h⟩ := bind_ok h
    refine k_iald cx g5 g7 dX11_move_17 ?_
    refine k_iload_n cx 1 dX11_move_18 rfl rfl ?_
    refine k_isub cx dX11_move_19 ?_
    obtain ⟨q8, g9, h⟩ := bind_ok h
    refine k_callS cx iv_X11_62 (w_X11_in g9) (As := [.int p2, .int 1, .int ((hpA σ a4 j6) - p1)]) rfl rfl ⟨Nat.le_of_ble_eq_true rfl, Nat.le_of_ble_eq_true rfl⟩ (by simp [cat_rf, cat_i, cat_j]) dX11_move_20 ?_
    refine k_if_eq cx 44 dX11_move_23 (by decide) (fun c10 => ?_) (fun c10 => ?_)
    · have h := ite_t h c10
      refine k_bipush cx (-2) dX11_move_44 (by decide) ?_
      have h := Option.some.inj h
      exact k_iret cx hr hlk (by rw [← h]) (by rw [← h]) dX11_move_46
    · have h := ite_f h c10
      refine k_iload_n cx 3 dX11_move_26 rfl rfl ?_
      refine k_iconst cx 0 dX11_move_27 (by decide) ?_
      refine k_aload_n cx 0 dX11_move_28 rfl rfl ?_
      refine q_getR cx fl_X11_7 hk0 dX11_move_29 ?_
      refine k_sipush cx 2040 dX11_move_32 (by decide) ?_
      obtain ⟨j11, g12, h⟩ := bind_ok h
      refine k_iald cx g5 g12 dX11_move_35 ?_
      refine k_iload_n cx 2 dX11_move_36 rfl rfl ?_
      refine k_isub cx dX11_move_37 ?_
      obtain ⟨q13, g14, h⟩ := bind_ok h
      refine k_callS cx iv_X11_62 (w_X11_in g14) (As := [.int p3, .int 0, .int ((hpA σ a4 j11) - p2)]) rfl rfl ⟨Nat.le_of_ble_eq_true rfl, Nat.le_of_ble_eq_true rfl⟩ (by simp [cat_rf, cat_i, cat_j]) dX11_move_38 ?_
      refine k_if_ne cx 47 dX11_move_41 (by decide) (fun c15 => ?_) (fun c15 => ?_)
      · have h := ite_t h c15
        refine k_aload_n cx 0 dX11_move_47 rfl rfl ?_
        obtain ⟨q16, g17, h⟩ := bind_ok h
        refine k_callV cx iv_X11_116 (ci := 11) rfl (by decide) (w_X11_keeps (dn_some hk0).2 g17) hk0 (As := []) rfl rfl ⟨Nat.le_of_ble_eq_true rfl, Nat.le_of_ble_eq_true rfl⟩ (by simp [cat_rf, cat_i, cat_j]) dX11_move_48 ?_
        refine k_iconst cx 0 dX11_move_51 (by decide) ?_
        refine k_istore cx [(4, .int 0), (0, va_rf (some t)), (1, .int p1), (2, .int p2), (3, .int p3)] dX11_move_52 (by decide) (by simp [cat_rf, cat_i, cat_j]) ?_
        obtain ⟨x19, hxx19, h⟩ := bind_ok h
        have Kx19 : Og p l e s m args below meth c Γ 8 4 86 σ (some (.int ρ.1)) ρ.2 191 [(0, va_rf (some t))] [] x19 := by
          refine k_aload_n cx 0 dX11_move_191 rfl rfl ?_
          obtain ⟨a54, g55, h⟩ := bind_ok h
          obtain ⟨q56, g57, h⟩ := bind_ok h
          refine k_callV cx iv_X11_137 (ci := 11) rfl (by decide) (w_X11_stanzas (dn_some g55).2 g57) g55 (As := []) rfl rfl ⟨Nat.le_of_ble_eq_true rfl, Nat.le_of_ble_eq_true rfl⟩ (by simp [cat_rf, cat_i, cat_j]) dX11_move_192 ?_
          have h := Option.some.inj h
          exact k_iret cx hr hlk (by rw [← h]) (by rw [← h]) dX11_move_195
        have KLx19 : ∀ (n : Nat) (v4 : Int32) (τ : St), LX11_move_54 n t p1 p2 p3 v4 τ = some x19 → Og p l e s m args below meth c Γ 8 4 86 σ (some (.int ρ.1)) ρ.2 54 [(0, va_rf (some t)), (1, .int p1), (2, .int p2), (3, .int p3), (4, .int v4)] [] τ := by
          intro n
          induction n with
          | zero => intro _ _ h; cases (show (none : Option _) = some x19 from h)
          | succ n ihx19 =>
            intro v4 τ h
            rw [LX11_move_54] at h
            refine k_iload cx 4 dX11_move_54 rfl ?_
            refine k_iload_n cx 2 dX11_move_56 rfl rfl ?_
            refine k_icmp_ge cx 191 dX11_move_57 (by decide) (fun c20 => ?_) (fun c20 => ?_)
            · have h := ite_t h c20
              refine k_sub [0] rfl ?_
              obtain rfl := Option.some.inj h
              exact Kx19
            · have h := ite_f h c20
              refine k_iload_n cx 3 dX11_move_60 rfl rfl ?_
              refine k_iload_n cx 1 dX11_move_61 rfl rfl ?_
              obtain ⟨x21, hxx21, h⟩ := bind_ok h
              have Kx21 : Og p l e s m args below meth c Γ 8 4 86 σ (some (.int ρ.1)) ρ.2 73 [(0, va_rf (some t)), (1, .int p1), (2, .int p2), (3, .int p3), (4, .int v4)] [.int x21] τ := by
                refine k_istore cx [(5, .int x21), (0, va_rf (some t)), (1, .int p1), (2, .int p2), (3, .int p3), (4, .int v4)] dX11_move_73 (by decide) (by simp [cat_rf, cat_i, cat_j]) ?_
                refine k_iload_n cx 4 dX11_move_75 rfl rfl ?_
                refine k_iload_n cx 2 dX11_move_76 rfl rfl ?_
                obtain ⟨x23, hxx23, h⟩ := bind_ok h
                have Kx23 : Og p l e s m args below meth c Γ 8 4 86 σ (some (.int ρ.1)) ρ.2 92 [(0, va_rf (some t)), (1, .int p1), (2, .int p2), (3, .int p3), (4, .int v4), (5, .int x21)] [.int x23] τ := by
                  refine k_istore cx [(6, .int x23), (0, va_rf (some t)), (1, .int p1), (2, .int p2), (3, .int p3), (4, .int v4), (5, .int x21)] dX11_move_92 (by decide) (by simp [cat_rf, cat_i, cat_j]) ?_
                  refine k_iconst cx 0 dX11_move_94 (by decide) ?_
                  refine k_istore cx [(7, .int 0), (6, .int x23), (0, va_rf (some t)), (1, .int p1), (2, .int p2), (3, .int p3), (4, .int v4), (5, .int x21)] dX11_move_95 (by decide) (by simp [cat_rf, cat_i, cat_j]) ?_
                  obtain ⟨x26, hxx26, h⟩ := bind_ok h
                  have Kx26 : Og p l e s m args below meth c Γ 8 4 86 σ (some (.int ρ.1)) ρ.2 125 [(0, va_rf (some t)), (1, .int p1), (2, .int p2), (3, .int p3), (4, .int v4), (5, .int x21), (6, .int x23)] [] x26 := by
                    refine k_iload cx 5 dX11_move_125 rfl ?_
                    refine k_istore cx [(7, .int x21), (0, va_rf (some t)), (1, .int p1), (2, .int p2), (3, .int p3), (4, .int v4), (5, .int x21), (6, .int x23)] dX11_move_127 (by decide) (by simp [cat_rf, cat_i, cat_j]) ?_
                    obtain ⟨x37, hxx37, h⟩ := bind_ok h
                    have Kx37 : Og p l e s m args below meth c Γ 8 4 86 σ (some (.int ρ.1)) ρ.2 152 [(0, va_rf (some t)), (1, .int p1), (2, .int p2), (3, .int p3), (4, .int v4), (5, .int x21), (6, .int x23)] [] x37 := by
                      refine k_iload cx 5 dX11_move_152 rfl ?_
                      refine k_istore cx [(7, .int x21), (0, va_rf (some t)), (1, .int p1), (2, .int p2), (3, .int p3), (4, .int v4), (5, .int x21), (6, .int x23)] dX11_move_154 (by decide) (by simp [cat_rf, cat_i, cat_j]) ?_
                      obtain ⟨x44, hxx44, h⟩ := bind_ok h
                      have Kx44 : Og p l e s m args below meth c Γ 8 4 86 σ (some (.int ρ.1)) ρ.2 179 [(0, va_rf (some t)), (1, .int p1), (2, .int p2), (3, .int p3), (4, .int v4), (6, .int x23)] [] x44 := by
                        refine k_aload_n cx 0 dX11_move_179 rfl rfl ?_
                        refine k_iload cx 5 dX11_move_180 rfl ?_
                        obtain ⟨a50, g51, h⟩ := bind_ok h
                        obtain ⟨q52, g53, h⟩ := bind_ok h
                        refine k_callV cx iv_X11_123 (ci := 11) rfl (by decide) (w_X11_lays (dn_some g51).2 g53) g51 (As := [.int x23]) rfl rfl ⟨Nat.le_of_ble_eq_true rfl, Nat.le_of_ble_eq_true rfl⟩ (by simp [cat_rf, cat_i, cat_j]) dX11_move_182 ?_
                        refine k_iinc cx 4 [(4, .int (v4 + 1)), (0, va_rf (some t)), (1, .int p1), (2, .int p2), (3, .int p3), (6, .int x23)] (v4 + 1) dX11_move_185 rfl rfl (by decide) (by simp [cat_rf, cat_i, cat_j]) ?_
                        refine k_goto cx 54 dX11_move_188 (by decide) ?_
                        refine k_sub [1, 2, 3, 4, 0] rfl ?_
                        exact ihx19 _ _ h
                      have KLx44 : ∀ (n : Nat) (v7 : Int32) (τ : St), LX11_move_156 n t p1 p2 p3 v4 x23 v7 τ = some x44 → Og p l e s m args below meth c Γ 8 4 86 σ (some (.int ρ.1)) ρ.2 156 [(0, va_rf (some t)), (1, .int p1), (2, .int p2), (3, .int p3), (4, .int v4), (6, .int x23), (7, .int v7)] [] τ := by
                        intro n
                        induction n with
                        | zero => intro _ _ h; cases (show (none : Option _) = some x44 from h)
                        | succ n ihx44 =>
                          intro v7 τ h
                          rw [LX11_move_156] at h
                          refine k_iload cx 6 dX11_move_156 rfl ?_
                          refine k_iload cx 5 dX11_move_158 rfl ?_
                          refine k_icmp_ge cx 179 dX11_move_160 (by decide) (fun c45 => ?_) (fun c45 => ?_)
                          · have h := ite_t h c45
                            refine k_sub [0, 1, 2, 3, 4, 5] rfl ?_
                            obtain rfl := Option.some.inj h
                            exact Kx44
                          · have h := ite_f h c45
                            refine k_aload_n cx 0 dX11_move_163 rfl rfl ?_
                            refine k_iload cx 6 dX11_move_164 rfl ?_
                            refine k_iconst cx 1 dX11_move_166 (by decide) ?_
                            refine k_iadd cx dX11_move_167 ?_
                            refine k_iload cx 6 dX11_move_168 rfl ?_
                            obtain ⟨a46, g47, h⟩ := bind_ok h
                            obtain ⟨q48, g49, h⟩ := bind_ok h
                            refine k_callV cx iv_X11_119 (ci := 11) rfl (by decide) (w_X11_copies (dn_some g47).2 g49) g47 (As := [.int (v7 + 1), .int v7]) rfl rfl ⟨Nat.le_of_ble_eq_true rfl, Nat.le_of_ble_eq_true rfl⟩ (by simp [cat_rf, cat_i, cat_j]) dX11_move_170 ?_
                            refine k_iinc cx 6 [(7, .int (v7 + 1)), (0, va_rf (some t)), (1, .int p1), (2, .int p2), (3, .int p3), (4, .int v4), (6, .int x23)] (v7 + 1) dX11_move_173 rfl rfl (by decide) (by simp [cat_rf, cat_i, cat_j]) ?_
                            refine k_goto cx 156 dX11_move_176 (by decide) ?_
                            refine k_sub [1, 2, 3, 4, 5, 6, 0] rfl ?_
                            exact ihx44 _ _ h
                      refine k_sub [1, 2, 3, 4, 5, 7, 0] rfl ?_
                      exact KLx44 FU _ _ hxx44
                    have KLx37 : ∀ (n : Nat) (v7 : Int32) (τ : St), LX11_move_129 n t p1 p2 p3 v4 x21 x23 v7 τ = some x37 → Og p l e s m args below meth c Γ 8 4 86 σ (some (.int ρ.1)) ρ.2 129 [(0, va_rf (some t)), (1, .int p1), (2, .int p2), (3, .int p3), (4, .int v4), (5, .int x21), (6, .int x23), (7, .int v7)] [] τ := by
                      intro n
                      induction n with
                      | zero => intro _ _ h; cases (show (none : Option _) = some x37 from h)
                      | succ n ihx37 =>
                        intro v7 τ h
                        rw [LX11_move_129] at h
                        refine k_iload cx 7 dX11_move_129 rfl ?_
                        refine k_iload cx 6 dX11_move_131 rfl ?_
                        refine k_icmp_le cx 152 dX11_move_133 (by decide) (fun c38 => ?_) (fun c38 => ?_)
                        · have h := ite_t h c38
                          refine k_sub [0, 1, 2, 3, 4, 5, 6] rfl ?_
                          obtain rfl := Option.some.inj h
                          exact Kx37
                        · have h := ite_f h c38
                          refine k_aload_n cx 0 dX11_move_136 rfl rfl ?_
                          refine k_iload cx 7 dX11_move_137 rfl ?_
                          refine k_iconst cx 1 dX11_move_139 (by decide) ?_
                          refine k_isub cx dX11_move_140 ?_
                          refine k_iload cx 7 dX11_move_141 rfl ?_
                          obtain ⟨a39, g40, h⟩ := bind_ok h
                          obtain ⟨q41, g42, h⟩ := bind_ok h
                          refine k_callV cx iv_X11_119 (ci := 11) rfl (by decide) (w_X11_copies (dn_some g40).2 g42) g40 (As := [.int (v7 - 1), .int v7]) rfl rfl ⟨Nat.le_of_ble_eq_true rfl, Nat.le_of_ble_eq_true rfl⟩ (by simp [cat_rf, cat_i, cat_j]) dX11_move_143 ?_
                          refine k_iinc cx 7 [(7, .int (v7 + (-1))), (0, va_rf (some t)), (1, .int p1), (2, .int p2), (3, .int p3), (4, .int v4), (5, .int x21), (6, .int x23)] (v7 + (-1)) dX11_move_146 rfl rfl (by decide) (by simp [cat_rf, cat_i, cat_j]) ?_
                          refine k_goto cx 129 dX11_move_149 (by decide) ?_
                          refine k_sub [1, 2, 3, 4, 5, 6, 7, 0] rfl ?_
                          exact ihx37 _ _ h
                    refine k_sub [1, 2, 3, 4, 5, 6, 7, 0] rfl ?_
                    exact KLx37 FU _ _ hxx37
                  have KLx26 : ∀ (n : Nat) (v7 : Int32) (τ : St), LX11_move_97 n t p1 p2 p3 v4 x21 x23 v7 τ = some x26 → Og p l e s m args below meth c Γ 8 4 86 σ (some (.int ρ.1)) ρ.2 97 [(0, va_rf (some t)), (1, .int p1), (2, .int p2), (3, .int p3), (4, .int v4), (5, .int x21), (6, .int x23), (7, .int v7)] [] τ := by
                    intro n
                    induction n with
                    | zero => intro _ _ h; cases (show (none : Option _) = some x26 from h)
                    | succ n ihx26 =>
                      intro v7 τ h
                      rw [LX11_move_97] at h
                      refine k_iload cx 7 dX11_move_97 rfl ?_
                      refine k_bipush cx 85 dX11_move_99 (by decide) ?_
                      refine k_icmp_ge cx 125 dX11_move_101 (by decide) (fun c27 => ?_) (fun c27 => ?_)
                      · have h := ite_t h c27
                        refine k_sub [0, 1, 2, 3, 4, 5, 6] rfl ?_
                        obtain rfl := Option.some.inj h
                        exact Kx26
                      · have h := ite_f h c27
                        refine k_aload_n cx 0 dX11_move_104 rfl rfl ?_
                        obtain ⟨a28, g29, h⟩ := bind_ok h
                        refine q_getR cx fl_X11_19 g29 dX11_move_105 ?_
                        refine k_iload cx 7 dX11_move_108 rfl ?_
                        refine k_aload_n cx 0 dX11_move_110 rfl rfl ?_
                        refine k_iload cx 5 dX11_move_111 rfl ?_
                        refine k_iload cx 7 dX11_move_113 rfl ?_
                        obtain ⟨q30, g31, h⟩ := bind_ok h
                        refine k_callV cx iv_X11_130 (ci := 11) rfl (by decide) (w_X11_of (dn_some g29).2 g31) g29 (As := [.int x21, .int v7]) rfl rfl ⟨Nat.le_of_ble_eq_true rfl, Nat.le_of_ble_eq_true rfl⟩ (by simp [cat_rf, cat_i, cat_j]) dX11_move_115 ?_
                        obtain ⟨a32, g33, h⟩ := bind_ok h
                        obtain ⟨j34, g35, h⟩ := bind_ok h
                        refine k_iast cx g33 g35 dX11_move_118 ?_
                        refine k_iinc cx 7 [(7, .int (v7 + 1)), (0, va_rf (some t)), (1, .int p1), (2, .int p2), (3, .int p3), (4, .int v4), (5, .int x21), (6, .int x23)] (v7 + 1) dX11_move_119 rfl rfl (by decide) (by simp [cat_rf, cat_i, cat_j]) ?_
                        refine k_goto cx 97 dX11_move_122 (by decide) ?_
                        refine k_sub [1, 2, 3, 4, 5, 6, 7, 0] rfl ?_
                        exact ihx26 _ _ h
                  refine k_sub [2, 3, 4, 5, 6, 7, 1, 0] rfl ?_
                  exact KLx26 FU _ _ hxx26
                have h := hxx23
                refine k_icmp_ge cx 87 dX11_move_77 (by decide) (fun c24 => ?_) (fun c24 => ?_)
                · have h := ite_t h c24
                  refine k_iload_n cx 4 dX11_move_87 rfl rfl ?_
                  refine k_iload_n cx 3 dX11_move_88 rfl rfl ?_
                  refine k_iadd cx dX11_move_89 ?_
                  refine k_iconst cx 1 dX11_move_90 (by decide) ?_
                  refine k_isub cx dX11_move_91 ?_
                  refine k_sub [1, 2, 3, 4, 5, 0] rfl ?_
                  obtain rfl := Option.some.inj h
                  exact Kx23
                · have h := ite_f h c24
                  refine k_iload_n cx 4 dX11_move_80 rfl rfl ?_
                  refine k_iload cx 5 dX11_move_81 rfl ?_
                  refine k_iadd cx dX11_move_83 ?_
                  refine k_goto cx 92 dX11_move_84 (by decide) ?_
                  refine k_sub [1, 2, 3, 4, 5, 0] rfl ?_
                  obtain rfl := Option.some.inj h
                  exact Kx23
              have h := hxx21
              refine k_icmp_ge cx 72 dX11_move_62 (by decide) (fun c22 => ?_) (fun c22 => ?_)
              · have h := ite_t h c22
                refine k_iload_n cx 1 dX11_move_72 rfl rfl ?_
                obtain rfl := Option.some.inj h
                exact Kx21
              · have h := ite_f h c22
                refine k_iload_n cx 1 dX11_move_65 rfl rfl ?_
                refine k_iload cx 4 dX11_move_66 rfl ?_
                refine k_iadd cx dX11_move_68 ?_
                refine k_goto cx 73 dX11_move_69 (by decide) ?_
                obtain rfl := Option.some.inj h
                exact Kx21
        refine k_sub [1, 2, 3, 4, 0] rfl ?_
        exact KLx19 FU _ _ hxx19
      · have h := ite_f h c15
        refine k_bipush cx (-2) dX11_move_44 (by decide) ?_
        have h := Option.some.inj h
        exact k_iret cx hr hlk (by rw [← h]) (by rw [← h]) dX11_move_46
set_option maxRecDepth 100000 in
set_option maxHeartbeats 4000000 in
theorem w_X11_toggle {Γ : GE} {σ : St} {t : Nat} {p1 : Int32} {p2 : Int32} {ρ : Int32 × St} (hk : hpK σ t = 11) (h : f_X11_toggle σ t p1 p2 = some ρ) : Ct Γ yX11_toggle cX11_toggle 4 (some .int) 2 43 [va_rf (some t), .int p1, .int p2] σ (some (.int ρ.1)) ρ.2 := by
  refine ct_intro (own := RX11) (L0 := [(0, va_rf (some t)), (1, .int p1), (2, .int p2)]) (by decide +kernel) rfl (by simp [lg_sl, cat_rf, cat_i, cat_j]) (by simp [lv_args, cat_rf, cat_i, cat_j]) ?_
  intro p l e s m args below meth c hr hlk hin cx
  have hk0 := dn_eq hk
  unfold f_X11_toggle at h
  refine k_aload_n cx 0 dX11_toggle_0 rfl rfl ?_
  refine k_iload_n cx 1 dX11_toggle_1 rfl rfl ?_
  obtain ⟨q1, g2, h⟩ := bind_ok h
  refine k_callV cx iv_X11_127 (ci := 11) rfl (by decide) (w_X11_isLine (dn_some hk0).2 g2) hk0 (As := [.int p1]) rfl rfl ⟨Nat.le_of_ble_eq_true rfl, Nat.le_of_ble_eq_true rfl⟩ (by simp [cat_rf, cat_i, cat_j]) dX11_toggle_2 ?_
  refine k_if_ne cx 11 dX11_toggle_5 (by decide) (fun c3 => ?_) (fun c3 => ?_)
  · have h := ite_t h c3
    refine k_aload_n cx 0 dX11_toggle_11 rfl rfl ?_
    obtain ⟨q4, g5, h⟩ := bind_ok h
    refine k_callV cx iv_X11_116 (ci := 11) rfl (by decide) (w_X11_keeps (dn_some hk0).2 g5) hk0 (As := []) rfl rfl ⟨Nat.le_of_ble_eq_true rfl, Nat.le_of_ble_eq_true rfl⟩ (by simp [cat_rf, cat_i, cat_j]) dX11_toggle_12 ?_
    refine k_bipush cx 85 dX11_toggle_15 (by decide) ?_
    refine k_iload_n cx 1 dX11_toggle_17 rfl rfl ?_
    refine k_imul cx dX11_toggle_18 ?_
    refine k_iload_n cx 2 dX11_toggle_19 rfl rfl ?_
    obtain ⟨x6, hxx6, h⟩ := bind_ok h
    have Kx6 : Og p l e s m args below meth c Γ 4 2 43 σ (some (.int ρ.1)) ρ.2 28 [(0, va_rf (some t))] [.int x6, .int (85 * p1)] q4 := by
      refine k_iadd cx dX11_toggle_28 ?_
      refine k_istore_n cx (i := 3) [(3, .int ((85 * p1) + x6)), (0, va_rf (some t))] dX11_toggle_29 rfl (by decide) (by simp [cat_rf, cat_i, cat_j]) ?_
      refine k_aload_n cx 1 dX11_toggle_30 rfl rfl ?_
      obtain ⟨a8, g9, h⟩ := bind_ok h
      refine q_getR cx fl_X11_7 g9 dX11_toggle_31 ?_
      refine k_iload_n cx 0 dX11_toggle_34 rfl rfl ?_
      refine k_iconst cx 1 dX11_toggle_35 (by decide) ?_
      refine k_aload_n cx 1 dX11_toggle_36 rfl rfl ?_
      refine q_getR cx fl_X11_7 g9 dX11_toggle_37 ?_
      refine k_iload_n cx 0 dX11_toggle_40 rfl rfl ?_
      obtain ⟨a10, g11, h⟩ := bind_ok h
      obtain ⟨j12, g13, h⟩ := bind_ok h
      refine k_iald cx g11 g13 dX11_toggle_41 ?_
      refine k_isub cx dX11_toggle_42 ?_
      obtain ⟨a14, g15, h⟩ := bind_ok h
      obtain ⟨j16, g17, h⟩ := bind_ok h
      refine k_iast cx g15 g17 dX11_toggle_43 ?_
      refine k_aload_n cx 1 dX11_toggle_44 rfl rfl ?_
      refine q_getR cx fl_X11_7 g9 dX11_toggle_45 ?_
      refine k_iload_n cx 0 dX11_toggle_48 rfl rfl ?_
      obtain ⟨a18, g19, h⟩ := bind_ok h
      obtain ⟨j20, g21, h⟩ := bind_ok h
      refine k_iald cx g19 g21 dX11_toggle_49 ?_
      have h := Option.some.inj h
      exact k_iret cx hr hlk (by rw [← h]) (by rw [← h]) dX11_toggle_50
    have h := hxx6
    refine k_if_eq cx 27 dX11_toggle_20 (by decide) (fun c7 => ?_) (fun c7 => ?_)
    · have h := ite_t h c7
      refine k_iconst cx 4 dX11_toggle_27 (by decide) ?_
      refine k_sub [0] rfl ?_
      obtain rfl := Option.some.inj h
      exact Kx6
    · have h := ite_f h c7
      refine k_iconst cx 3 dX11_toggle_23 (by decide) ?_
      refine k_goto cx 28 dX11_toggle_24 (by decide) ?_
      refine k_sub [0] rfl ?_
      obtain rfl := Option.some.inj h
      exact Kx6
  · have h := ite_f h c3
    refine k_bipush cx (-2) dX11_toggle_8 (by decide) ?_
    have h := Option.some.inj h
    exact k_iret cx hr hlk (by rw [← h]) (by rw [← h]) dX11_toggle_10
set_option maxRecDepth 100000 in
set_option maxHeartbeats 4000000 in
theorem w_X11_leans {Γ : GE} {σ : St} {t : Nat} {p1 : Int32} {ρ : Int32} (hk : hpK σ t = 11) (h : f_X11_leans σ t p1 = some ρ) : Ct Γ yX11_leans cX11_leans 2 (some .boolean) 2 43 [va_rf (some t), .int p1] σ (some (.int ρ)) σ := by
  refine ct_intro (own := RX11) (L0 := [(0, va_rf (some t)), (1, .int p1)]) (by decide +kernel) rfl (by simp [lg_sl, cat_rf, cat_i, cat_j]) (by simp [lv_args, cat_rf, cat_i, cat_j]) ?_
  intro p l e s m args below meth c hr hlk hin cx
  have hk0 := dn_eq hk
  unfold f_X11_leans at h
  refine k_aload_n cx 0 dX11_leans_0 rfl rfl ?_
  refine k_iload_n cx 1 dX11_leans_1 rfl rfl ?_
  refine k_iconst cx 3 dX11_leans_2 (by decide) ?_
  obtain ⟨q1, g2, h⟩ := bind_ok h
  refine k_callV cx iv_X11_130 (ci := 11) rfl (by decide) (w_X11_of (dn_some hk0).2 g2) hk0 (As := [.int p1, .int 3]) rfl rfl ⟨Nat.le_of_ble_eq_true rfl, Nat.le_of_ble_eq_true rfl⟩ (by simp [cat_rf, cat_i, cat_j]) dX11_leans_3 ?_
  refine k_iconst cx 1 dX11_leans_6 (by decide) ?_
  refine k_icmp_ne cx 22 dX11_leans_7 (by decide) (fun c3 => ?_) (fun c3 => ?_)
  · have h := ite_t h c3
    refine k_iconst cx 0 dX11_leans_22 (by decide) ?_
    have h := Option.some.inj h
    exact k_zret cx hr hlk gz_0 (by rw [← h]) rfl dX11_leans_23
  · have h := ite_f h c3
    refine k_aload_n cx 0 dX11_leans_10 rfl rfl ?_
    refine k_iload_n cx 1 dX11_leans_11 rfl rfl ?_
    obtain ⟨q4, g5, h⟩ := bind_ok h
    refine k_callV cx iv_X11_140 (ci := 11) rfl (by decide) (w_X11_beginsStanza (dn_some hk0).2 g5) hk0 (As := [.int p1]) rfl rfl ⟨Nat.le_of_ble_eq_true rfl, Nat.le_of_ble_eq_true rfl⟩ (by simp [cat_rf, cat_i, cat_j]) dX11_leans_12 ?_
    refine k_if_ne cx 22 dX11_leans_15 (by decide) (fun c6 => ?_) (fun c6 => ?_)
    · have h := ite_t h c6
      refine k_iconst cx 0 dX11_leans_22 (by decide) ?_
      have h := Option.some.inj h
      exact k_zret cx hr hlk gz_0 (by rw [← h]) rfl dX11_leans_23
    · have h := ite_f h c6
      refine k_iconst cx 1 dX11_leans_18 (by decide) ?_
      refine k_goto cx 23 dX11_leans_19 (by decide) ?_
      have h := Option.some.inj h
      exact k_zret cx hr hlk gz_1 (by rw [← h]) rfl dX11_leans_23
set_option maxRecDepth 100000 in
set_option maxHeartbeats 4000000 in
theorem w_X11_numberOf {Γ : GE} {σ : St} {t : Nat} {p1 : Int32} {ρ : Int32} (hk : hpK σ t = 11) (h : f_X11_numberOf σ t p1 = some ρ) : Ct Γ yX11_numberOf cX11_numberOf 4 (some .int) 3 64 [va_rf (some t), .int p1] σ (some (.int ρ)) σ := by
  refine ct_intro (own := RX11) (L0 := [(0, va_rf (some t)), (1, .int p1)]) (by decide +kernel) rfl (by simp [lg_sl, cat_rf, cat_i, cat_j]) (by simp [lv_args, cat_rf, cat_i, cat_j]) ?_
  intro p l e s m args below meth c hr hlk hin cx
  have hk0 := dn_eq hk
  unfold f_X11_numberOf at h
  refine k_iconst cx 0 dX11_numberOf_0 (by decide) ?_
  refine k_istore_n cx (i := 2) [(2, .int 0), (0, va_rf (some t)), (1, .int p1)] dX11_numberOf_1 rfl (by decide) (by simp [cat_rf, cat_i, cat_j]) ?_
  refine k_iconst cx 0 dX11_numberOf_2 (by decide) ?_
  refine k_istore_n cx (i := 3) [(3, .int 0), (2, .int 0), (0, va_rf (some t)), (1, .int p1)] dX11_numberOf_3 rfl (by decide) (by simp [cat_rf, cat_i, cat_j]) ?_
  obtain ⟨x2, hxx2, h⟩ := bind_ok h
  have Kx2 : Og p l e s m args below meth c Γ 4 3 64 σ (some (.int ρ)) σ 31 [(2, .int x2)] [] σ := by
    refine k_iload_n cx 0 dX11_numberOf_31 rfl rfl ?_
    have h := Option.some.inj h
    exact k_iret cx hr hlk (by rw [← h]) rfl dX11_numberOf_32
  have KLx2 : ∀ (n : Nat) (v2 : Int32) (v3 : Int32), LX11_numberOf_4 n σ t p1 v2 v3 = some x2 → Og p l e s m args below meth c Γ 4 3 64 σ (some (.int ρ)) σ 4 [(0, va_rf (some t)), (1, .int p1), (2, .int v2), (3, .int v3)] [] σ := by
    intro n
    induction n with
    | zero => intro _ _ h; cases (show (none : Option _) = some x2 from h)
    | succ n ihx2 =>
      intro v2 v3 h
      rw [LX11_numberOf_4] at h
      refine k_iload_n cx 3 dX11_numberOf_4 rfl rfl ?_
      refine k_iload_n cx 1 dX11_numberOf_5 rfl rfl ?_
      refine k_icmp_gt cx 31 dX11_numberOf_6 (by decide) (fun c3 => ?_) (fun c3 => ?_)
      · have h := ite_t h c3
        refine k_sub [2] rfl ?_
        obtain rfl := Option.some.inj h
        exact Kx2
      · have h := ite_f h c3
        refine k_iload_n cx 2 dX11_numberOf_9 rfl rfl ?_
        refine k_aload_n cx 0 dX11_numberOf_10 rfl rfl ?_
        refine k_iload_n cx 3 dX11_numberOf_11 rfl rfl ?_
        obtain ⟨q4, g5, h⟩ := bind_ok h
        refine k_callV cx iv_X11_147 (ci := 11) rfl (by decide) (w_X11_leans (dn_some hk0).2 g5) hk0 (As := [.int v3]) rfl rfl ⟨Nat.le_of_ble_eq_true rfl, Nat.le_of_ble_eq_true rfl⟩ (by simp [cat_rf, cat_i, cat_j]) dX11_numberOf_12 ?_
        obtain ⟨x6, hxx6, h⟩ := bind_ok h
        have Kx6 : Og p l e s m args below meth c Γ 4 3 64 σ (some (.int ρ)) σ 23 [(0, va_rf (some t)), (1, .int p1), (3, .int v3)] [.int x6, .int v2] σ := by
          refine k_iadd cx dX11_numberOf_23 ?_
          refine k_istore_n cx (i := 2) [(2, .int (v2 + x6)), (0, va_rf (some t)), (1, .int p1), (3, .int v3)] dX11_numberOf_24 rfl (by decide) (by simp [cat_rf, cat_i, cat_j]) ?_
          refine k_iinc cx 3 [(3, .int (v3 + 1)), (2, .int (v2 + x6)), (0, va_rf (some t)), (1, .int p1)] (v3 + 1) dX11_numberOf_25 rfl rfl (by decide) (by simp [cat_rf, cat_i, cat_j]) ?_
          refine k_goto cx 4 dX11_numberOf_28 (by decide) ?_
          refine k_sub [2, 3, 1, 0] rfl ?_
          exact ihx2 _ _ h
        have h := hxx6
        refine k_if_eq cx 22 dX11_numberOf_15 (by decide) (fun c7 => ?_) (fun c7 => ?_)
        · have h := ite_t h c7
          refine k_iconst cx 1 dX11_numberOf_22 (by decide) ?_
          refine k_sub [0, 1, 3] rfl ?_
          obtain rfl := Option.some.inj h
          exact Kx6
        · have h := ite_f h c7
          refine k_iconst cx 0 dX11_numberOf_18 (by decide) ?_
          refine k_goto cx 23 dX11_numberOf_19 (by decide) ?_
          refine k_sub [0, 1, 3] rfl ?_
          obtain rfl := Option.some.inj h
          exact Kx6
  refine k_sub [2, 3, 1, 0] rfl ?_
  exact KLx2 FU _ _ hxx2
set_option maxRecDepth 100000 in
set_option maxHeartbeats 4000000 in
theorem w_X11_begins {Γ : GE} {σ : St} {t : Nat} {p1 : Int32} {p2 : Int32} {p3 : Int32} {p4 : Int32} {p5 : Int32} {ρ : St} (hk : hpK σ t = 11) (h : f_X11_begins σ t p1 p2 p3 p4 p5 = some ρ) : Ct Γ yX11_begins cX11_begins 6 none 1 21 [va_rf (some t), .int p1, .int p2, .int p3, .int p4, .int p5] σ none ρ := by
  refine ct_intro (own := RX11) (L0 := [(0, va_rf (some t)), (1, .int p1), (2, .int p2), (3, .int p3), (4, .int p4), (5, .int p5)]) (by decide +kernel) rfl (by simp [lg_sl, cat_rf, cat_i, cat_j]) (by simp [lv_args, cat_rf, cat_i, cat_j]) ?_
  intro p l e s m args below meth c hr hlk hin cx
  have hk0 := dn_eq hk
  unfold f_X11_begins at h
  refine k_aload_n cx 0 dX11_begins_0 rfl rfl ?_
  refine q_getR cx fl_X11_22 hk0 dX11_begins_1 ?_
  refine k_aload_n cx 0 dX11_begins_4 rfl rfl ?_
  refine q_getI cx fl_X11_150 hk0 dX11_begins_5 ?_
  refine k_iload_n cx 1 dX11_begins_8 rfl rfl ?_
  obtain ⟨a1, g2, h⟩ := bind_ok h
  obtain ⟨j3, g4, h⟩ := bind_ok h
  refine k_iast cx g2 g4 dX11_begins_9 ?_
  refine k_aload_n cx 0 dX11_begins_10 rfl rfl ?_
  refine q_getR cx fl_X11_25 hk0 dX11_begins_11 ?_
  refine k_aload_n cx 0 dX11_begins_14 rfl rfl ?_
  refine q_getI cx fl_X11_150 hk0 dX11_begins_15 ?_
  refine k_iload_n cx 2 dX11_begins_18 rfl rfl ?_
  obtain ⟨a5, g6, h⟩ := bind_ok h
  obtain ⟨j7, g8, h⟩ := bind_ok h
  refine k_iast cx g6 g8 dX11_begins_19 ?_
  refine k_aload_n cx 0 dX11_begins_20 rfl rfl ?_
  refine q_getR cx fl_X11_28 hk0 dX11_begins_21 ?_
  refine k_aload_n cx 0 dX11_begins_24 rfl rfl ?_
  refine q_getI cx fl_X11_150 hk0 dX11_begins_25 ?_
  refine k_iload_n cx 3 dX11_begins_28 rfl rfl ?_
  refine k_aload_n cx 0 dX11_begins_29 rfl rfl ?_
  refine q_getR cx fl_X11_7 hk0 dX11_begins_30 ?_
  refine k_sipush cx 2041 dX11_begins_33 (by decide) ?_
  obtain ⟨a9, g10, h⟩ := bind_ok h
  obtain ⟨j11, g12, h⟩ := bind_ok h
  refine k_iald cx g10 g12 dX11_begins_36 ?_
  refine k_bipush cx 6 dX11_begins_37 (by decide) ?_
  refine k_isub cx dX11_begins_39 ?_
  obtain ⟨q13, g14, h⟩ := bind_ok h
  refine k_callS cx iv_X11_153 (w_X11_lesser g14) (As := [.int p3, .int ((hpA (stA (stA σ a1 j3 p1) a5 j7 p2) a9 j11) - 6)]) rfl rfl ⟨Nat.le_of_ble_eq_true rfl, Nat.le_of_ble_eq_true rfl⟩ (by simp [cat_rf, cat_i, cat_j]) dX11_begins_40 ?_
  obtain ⟨a15, g16, h⟩ := bind_ok h
  obtain ⟨j17, g18, h⟩ := bind_ok h
  refine k_iast cx g16 g18 dX11_begins_43 ?_
  refine k_aload_n cx 0 dX11_begins_44 rfl rfl ?_
  refine q_getR cx fl_X11_31 hk0 dX11_begins_45 ?_
  refine k_aload_n cx 0 dX11_begins_48 rfl rfl ?_
  refine q_getI cx fl_X11_150 hk0 dX11_begins_49 ?_
  refine k_iconst cx 0 dX11_begins_52 (by decide) ?_
  obtain ⟨a19, g20, h⟩ := bind_ok h
  obtain ⟨j21, g22, h⟩ := bind_ok h
  refine k_iast cx g20 g22 dX11_begins_53 ?_
  refine k_aload_n cx 0 dX11_begins_54 rfl rfl ?_
  refine q_getR cx fl_X11_37 hk0 dX11_begins_55 ?_
  refine k_aload_n cx 0 dX11_begins_58 rfl rfl ?_
  refine q_getI cx fl_X11_150 hk0 dX11_begins_59 ?_
  refine k_iload cx 4 dX11_begins_62 rfl ?_
  obtain ⟨a23, g24, h⟩ := bind_ok h
  obtain ⟨j25, g26, h⟩ := bind_ok h
  refine k_iast cx g24 g26 dX11_begins_64 ?_
  refine k_aload_n cx 0 dX11_begins_65 rfl rfl ?_
  refine q_getR cx fl_X11_34 hk0 dX11_begins_66 ?_
  refine k_aload_n cx 0 dX11_begins_69 rfl rfl ?_
  refine q_getI cx fl_X11_150 hk0 dX11_begins_70 ?_
  refine k_iload cx 5 dX11_begins_73 rfl ?_
  obtain ⟨a27, g28, h⟩ := bind_ok h
  obtain ⟨j29, g30, h⟩ := bind_ok h
  refine k_iast cx g28 g30 dX11_begins_75 ?_
  refine k_aload_n cx 0 dX11_begins_76 rfl rfl ?_
  refine k_dup cx (by simp [cat_rf, cat_i, cat_j]) dX11_begins_77 ?_
  refine q_getI cx fl_X11_150 hk0 dX11_begins_78 ?_
  refine k_iconst cx 1 dX11_begins_81 (by decide) ?_
  refine k_iadd cx dX11_begins_82 ?_
  refine q_putI cx pl_X11_150 hk0 dX11_begins_83 ?_
  have h := Option.some.inj h
  exact k_vret cx hr hlk rfl (by rw [← h]) dX11_begins_86
set_option maxRecDepth 100000 in
set_option maxHeartbeats 4000000 in
theorem w_X11_wordFrom {Γ : GE} {σ : St} {t : Nat} {p1 : Int32} {p2 : Int32} {ρ : Int32} (hk : hpK σ t = 11) (h : f_X11_wordFrom σ t p1 p2 = some ρ) : Ct Γ yX11_wordFrom cX11_wordFrom 4 (some .int) 1 22 [va_rf (some t), .int p1, .int p2] σ (some (.int ρ)) σ := by
  refine ct_intro (own := RX11) (L0 := [(0, va_rf (some t)), (1, .int p1), (2, .int p2)]) (by decide +kernel) rfl (by simp [lg_sl, cat_rf, cat_i, cat_j]) (by simp [lv_args, cat_rf, cat_i, cat_j]) ?_
  intro p l e s m args below meth c hr hlk hin cx
  have hk0 := dn_eq hk
  unfold f_X11_wordFrom at h
  refine k_iconst cx 0 dX11_wordFrom_0 (by decide) ?_
  refine k_istore_n cx (i := 3) [(3, .int 0), (0, va_rf (some t)), (1, .int p1), (2, .int p2)] dX11_wordFrom_1 rfl (by decide) (by simp [cat_rf, cat_i, cat_j]) ?_
  obtain ⟨x2, hxx2, h⟩ := bind_ok h
  have Kx2 : Og p l e s m args below meth c Γ 4 1 22 σ (some (.int ρ)) σ 35 [(3, .int x2)] [] σ := by
    refine k_iload_n cx 0 dX11_wordFrom_35 rfl rfl ?_
    have h := Option.some.inj h
    exact k_iret cx hr hlk (by rw [← h]) rfl dX11_wordFrom_36
  have KLx2 : ∀ (n : Nat) (v3 : Int32), LX11_wordFrom_2 n σ t p1 p2 v3 = some x2 → Og p l e s m args below meth c Γ 4 1 22 σ (some (.int ρ)) σ 2 [(0, va_rf (some t)), (1, .int p1), (2, .int p2), (3, .int v3)] [] σ := by
    intro n
    induction n with
    | zero => intro _ h; cases (show (none : Option _) = some x2 from h)
    | succ n ihx2 =>
      intro v3 h
      rw [LX11_wordFrom_2] at h
      refine k_iload_n cx 2 dX11_wordFrom_2 rfl rfl ?_
      refine k_iload_n cx 3 dX11_wordFrom_3 rfl rfl ?_
      refine k_iadd cx dX11_wordFrom_4 ?_
      refine k_aload_n cx 0 dX11_wordFrom_5 rfl rfl ?_
      refine k_iload_n cx 1 dX11_wordFrom_6 rfl rfl ?_
      refine k_iconst cx 0 dX11_wordFrom_7 (by decide) ?_
      obtain ⟨q3, g4, h⟩ := bind_ok h
      refine k_callV cx iv_X11_130 (ci := 11) rfl (by decide) (w_X11_of (dn_some hk0).2 g4) hk0 (As := [.int p1, .int 0]) rfl rfl ⟨Nat.le_of_ble_eq_true rfl, Nat.le_of_ble_eq_true rfl⟩ (by simp [cat_rf, cat_i, cat_j]) dX11_wordFrom_8 ?_
      refine k_icmp_ge cx 35 dX11_wordFrom_11 (by decide) (fun c5 => ?_) (fun c5 => ?_)
      · have h := ite_t h c5
        refine k_sub [3] rfl ?_
        obtain rfl := Option.some.inj h
        exact Kx2
      · have h := ite_f h c5
        refine k_aload_n cx 0 dX11_wordFrom_14 rfl rfl ?_
        refine k_iload_n cx 1 dX11_wordFrom_15 rfl rfl ?_
        refine k_iconst cx 5 dX11_wordFrom_16 (by decide) ?_
        refine k_iload_n cx 2 dX11_wordFrom_17 rfl rfl ?_
        refine k_iadd cx dX11_wordFrom_18 ?_
        refine k_iload_n cx 3 dX11_wordFrom_19 rfl rfl ?_
        refine k_iadd cx dX11_wordFrom_20 ?_
        obtain ⟨q6, g7, h⟩ := bind_ok h
        refine k_callV cx iv_X11_130 (ci := 11) rfl (by decide) (w_X11_of (dn_some hk0).2 g7) hk0 (As := [.int p1, .int ((5 + p2) + v3)]) rfl rfl ⟨Nat.le_of_ble_eq_true rfl, Nat.le_of_ble_eq_true rfl⟩ (by simp [cat_rf, cat_i, cat_j]) dX11_wordFrom_21 ?_
        refine k_bipush cx 32 dX11_wordFrom_24 (by decide) ?_
        refine k_icmp_eq cx 35 dX11_wordFrom_26 (by decide) (fun c8 => ?_) (fun c8 => ?_)
        · have h := ite_t h c8
          refine k_sub [3] rfl ?_
          obtain rfl := Option.some.inj h
          exact Kx2
        · have h := ite_f h c8
          refine k_iinc cx 3 [(3, .int (v3 + 1)), (0, va_rf (some t)), (1, .int p1), (2, .int p2)] (v3 + 1) dX11_wordFrom_29 rfl rfl (by decide) (by simp [cat_rf, cat_i, cat_j]) ?_
          refine k_goto cx 2 dX11_wordFrom_32 (by decide) ?_
          refine k_sub [1, 2, 3, 0] rfl ?_
          exact ihx2 _ h
  refine k_sub [1, 2, 3, 0] rfl ?_
  exact KLx2 FU _ hxx2
set_option maxRecDepth 100000 in
set_option maxHeartbeats 4000000 in
theorem w_X11_laysRows {Γ : GE} {σ : St} {t : Nat} {p1 : Int32} {ρ : St} (hk : hpK σ t = 11) (h : f_X11_laysRows σ t p1 = some ρ) : Ct Γ yX11_laysRows cX11_laysRows 9 none 3 64 [va_rf (some t), .int p1] σ none ρ := by
  refine ct_intro (own := RX11) (L0 := [(0, va_rf (some t)), (1, .int p1)]) (by decide +kernel) rfl (by simp [lg_sl, cat_rf, cat_i, cat_j]) (by simp [lv_args, cat_rf, cat_i, cat_j]) ?_
  intro p l e s m args below meth c hr hlk hin cx
  have hk0 := dn_eq hk
  unfold f_X11_laysRows at h
  refine k_aload_n cx 0 dX11_laysRows_0 rfl rfl ?_
  refine k_iload_n cx 1 dX11_laysRows_1 rfl rfl ?_
  refine k_iconst cx 2 dX11_laysRows_2 (by decide) ?_
  obtain ⟨q1, g2, h⟩ := bind_ok h
  refine k_callV cx iv_X11_130 (ci := 11) rfl (by decide) (w_X11_of (dn_some hk0).2 g2) hk0 (As := [.int p1, .int 2]) rfl rfl ⟨Nat.le_of_ble_eq_true rfl, Nat.le_of_ble_eq_true rfl⟩ (by simp [cat_rf, cat_i, cat_j]) dX11_laysRows_3 ?_
  refine k_aload_n cx 0 dX11_laysRows_6 rfl rfl ?_
  refine q_getR cx fl_X11_7 hk0 dX11_laysRows_7 ?_
  refine k_sipush cx 2043 dX11_laysRows_10 (by decide) ?_
  obtain ⟨a3, g4, h⟩ := bind_ok h
  obtain ⟨j5, g6, h⟩ := bind_ok h
  refine k_iald cx g4 g6 dX11_laysRows_13 ?_
  refine k_imul cx dX11_laysRows_14 ?_
  refine k_istore_n cx (i := 2) [(2, .int (q1 * (hpA σ a3 j5))), (0, va_rf (some t)), (1, .int p1)] dX11_laysRows_15 rfl (by decide) (by simp [cat_rf, cat_i, cat_j]) ?_
  refine k_aload_n cx 1 dX11_laysRows_16 rfl rfl ?_
  refine q_getI cx fl_X11_150 hk0 dX11_laysRows_17 ?_
  refine k_istore_n cx (i := 3) [(3, .int (hpI σ 369 t)), (2, .int (q1 * (hpA σ a3 j5))), (0, va_rf (some t)), (1, .int p1)] dX11_laysRows_20 rfl (by decide) (by simp [cat_rf, cat_i, cat_j]) ?_
  refine k_aload_n cx 2 dX11_laysRows_21 rfl rfl ?_
  refine k_iload_n cx 3 dX11_laysRows_22 rfl rfl ?_
  refine k_iconst cx 0 dX11_laysRows_23 (by decide) ?_
  refine k_aload_n cx 2 dX11_laysRows_24 rfl rfl ?_
  refine k_iload_n cx 3 dX11_laysRows_25 rfl rfl ?_
  obtain ⟨q7, g8, h⟩ := bind_ok h
  refine k_callV cx iv_X11_147 (ci := 11) rfl (by decide) (w_X11_leans (dn_some hk0).2 g8) hk0 (As := [.int p1]) rfl rfl ⟨Nat.le_of_ble_eq_true rfl, Nat.le_of_ble_eq_true rfl⟩ (by simp [cat_rf, cat_i, cat_j]) dX11_laysRows_26 ?_
  obtain ⟨x9, hxx9, h⟩ := bind_ok h
  have Kx9 : Og p l e s m args below meth c Γ 9 3 64 σ none ρ 61 [(0, va_rf (some t)), (1, .int p1), (2, .int (q1 * (hpA σ a3 j5))), (3, .int (hpI σ 369 t))] [.int x9, .int 0, .int p1, va_rf (some t)] σ := by
    refine k_iconst cx 0 dX11_laysRows_61 (by decide) ?_
    refine k_iconst cx 0 dX11_laysRows_62 (by decide) ?_
    obtain ⟨q19, g20, h⟩ := bind_ok h
    refine k_callV cx iv_X11_156 (ci := 11) rfl (by decide) (w_X11_begins (dn_some hk0).2 g20) hk0 (As := [.int p1, .int 0, .int x9, .int 0, .int 0]) rfl rfl ⟨Nat.le_of_ble_eq_true rfl, Nat.le_of_ble_eq_true rfl⟩ (by simp [cat_rf, cat_i, cat_j]) dX11_laysRows_63 ?_
    refine k_iconst cx 0 dX11_laysRows_66 (by decide) ?_
    refine k_istore cx [(4, .int 0), (0, va_rf (some t)), (1, .int p1), (2, .int (q1 * (hpA σ a3 j5))), (3, .int (hpI σ 369 t))] dX11_laysRows_67 (by decide) (by simp [cat_rf, cat_i, cat_j]) ?_
    obtain ⟨x22, hxx22, h⟩ := bind_ok h
    have Kx22 : Og p l e s m args below meth c Γ 9 3 64 σ none ρ 253 [] [] x22 := by
      have h := Option.some.inj h
      exact k_vret cx hr hlk rfl (by rw [← h]) dX11_laysRows_253
    have KLx22 : ∀ (n : Nat) (v4 : Int32) (τ : St), LX11_laysRows_69 n t p1 (q1 * (hpA σ a3 j5)) (hpI σ 369 t) v4 τ = some x22 → Og p l e s m args below meth c Γ 9 3 64 σ none ρ 69 [(0, va_rf (some t)), (1, .int p1), (2, .int (q1 * (hpA σ a3 j5))), (3, .int (hpI σ 369 t)), (4, .int v4)] [] τ := by
      intro n
      induction n with
      | zero => intro _ _ h; cases (show (none : Option _) = some x22 from h)
      | succ n ihx22 =>
        intro v4 τ h
        rw [LX11_laysRows_69] at h
        refine k_iload cx 4 dX11_laysRows_69 rfl ?_
        refine k_aload_n cx 0 dX11_laysRows_71 rfl rfl ?_
        refine k_iload_n cx 1 dX11_laysRows_72 rfl rfl ?_
        refine k_iconst cx 0 dX11_laysRows_73 (by decide) ?_
        obtain ⟨a23, g24, h⟩ := bind_ok h
        obtain ⟨q25, g26, h⟩ := bind_ok h
        refine k_callV cx iv_X11_130 (ci := 11) rfl (by decide) (w_X11_of (dn_some g24).2 g26) g24 (As := [.int p1, .int 0]) rfl rfl ⟨Nat.le_of_ble_eq_true rfl, Nat.le_of_ble_eq_true rfl⟩ (by simp [cat_rf, cat_i, cat_j]) dX11_laysRows_74 ?_
        refine k_icmp_ge cx 253 dX11_laysRows_77 (by decide) (fun c27 => ?_) (fun c27 => ?_)
        · have h := ite_t h c27
          refine k_sub [] rfl ?_
          obtain rfl := Option.some.inj h
          exact Kx22
        · have h := ite_f h c27
          refine k_aload_n cx 0 dX11_laysRows_80 rfl rfl ?_
          refine k_iload_n cx 1 dX11_laysRows_81 rfl rfl ?_
          refine k_iload cx 4 dX11_laysRows_82 rfl ?_
          obtain ⟨q28, g29, h⟩ := bind_ok h
          refine k_callV cx iv_X11_160 (ci := 11) rfl (by decide) (w_X11_wordFrom (dn_some g24).2 g29) g24 (As := [.int p1, .int v4]) rfl rfl ⟨Nat.le_of_ble_eq_true rfl, Nat.le_of_ble_eq_true rfl⟩ (by simp [cat_rf, cat_i, cat_j]) dX11_laysRows_84 ?_
          refine k_istore cx [(5, .int q28), (0, va_rf (some t)), (1, .int p1), (2, .int (q1 * (hpA σ a3 j5))), (3, .int (hpI σ 369 t)), (4, .int v4)] dX11_laysRows_87 (by decide) (by simp [cat_rf, cat_i, cat_j]) ?_
          refine k_aload_n cx 1 dX11_laysRows_89 rfl rfl ?_
          refine q_getI cx fl_X11_150 g24 dX11_laysRows_90 ?_
          refine k_iconst cx 1 dX11_laysRows_93 (by decide) ?_
          refine k_isub cx dX11_laysRows_94 ?_
          refine k_istore cx [(6, .int ((hpI τ 369 a23) - 1)), (5, .int q28), (0, va_rf (some t)), (1, .int p1), (2, .int (q1 * (hpA σ a3 j5))), (3, .int (hpI σ 369 t)), (4, .int v4)] dX11_laysRows_95 (by decide) (by simp [cat_rf, cat_i, cat_j]) ?_
          refine k_aload_n cx 2 dX11_laysRows_97 rfl rfl ?_
          refine q_getR cx fl_X11_31 g24 dX11_laysRows_98 ?_
          refine k_iload cx 0 dX11_laysRows_101 rfl ?_
          obtain ⟨a30, g31, h⟩ := bind_ok h
          obtain ⟨j32, g33, h⟩ := bind_ok h
          refine k_iald cx g31 g33 dX11_laysRows_103 ?_
          obtain ⟨x34, hxx34, h⟩ := bind_ok h
          have Kx34 : Og p l e s m args below meth c Γ 9 3 64 σ none ρ 112 [(0, va_rf (some t)), (1, .int p1), (2, .int (q1 * (hpA σ a3 j5))), (3, .int (hpI σ 369 t)), (4, .int v4), (5, .int q28), (6, .int ((hpI τ 369 a23) - 1))] [.int x34] τ := by
            refine k_istore cx [(7, .int x34), (0, va_rf (some t)), (1, .int p1), (2, .int (q1 * (hpA σ a3 j5))), (3, .int (hpI σ 369 t)), (4, .int v4), (5, .int q28), (6, .int ((hpI τ 369 a23) - 1))] dX11_laysRows_112 (by decide) (by simp [cat_rf, cat_i, cat_j]) ?_
            refine k_aload_n cx 1 dX11_laysRows_114 rfl rfl ?_
            refine q_getR cx fl_X11_7 g24 dX11_laysRows_115 ?_
            refine k_sipush cx 2041 dX11_laysRows_118 (by decide) ?_
            obtain ⟨a36, g37, h⟩ := bind_ok h
            obtain ⟨j38, g39, h⟩ := bind_ok h
            refine k_iald cx g37 g39 dX11_laysRows_121 ?_
            refine k_aload_n cx 1 dX11_laysRows_122 rfl rfl ?_
            refine q_getR cx fl_X11_28 g24 dX11_laysRows_123 ?_
            refine k_iload cx 7 dX11_laysRows_126 rfl ?_
            obtain ⟨a40, g41, h⟩ := bind_ok h
            obtain ⟨j42, g43, h⟩ := bind_ok h
            refine k_iald cx g41 g43 dX11_laysRows_128 ?_
            refine k_isub cx dX11_laysRows_129 ?_
            refine k_aload_n cx 1 dX11_laysRows_130 rfl rfl ?_
            refine q_getR cx fl_X11_31 g24 dX11_laysRows_131 ?_
            refine k_iload cx 7 dX11_laysRows_134 rfl ?_
            obtain ⟨j44, g45, h⟩ := bind_ok h
            refine k_iald cx g31 g45 dX11_laysRows_136 ?_
            refine k_isub cx dX11_laysRows_137 ?_
            refine k_iload cx 0 dX11_laysRows_138 rfl ?_
            refine k_isub cx dX11_laysRows_140 ?_
            refine k_istore cx [(8, .int ((((hpA τ a36 j38) - (hpA τ a40 j42)) - (hpA τ a30 j44)) - x34)), (7, .int x34), (0, va_rf (some t)), (1, .int p1), (2, .int (q1 * (hpA σ a3 j5))), (3, .int (hpI σ 369 t)), (4, .int v4), (5, .int q28), (6, .int ((hpI τ 369 a23) - 1))] dX11_laysRows_141 (by decide) (by simp [cat_rf, cat_i, cat_j]) ?_
            refine k_iload cx 7 dX11_laysRows_143 rfl ?_
            refine k_iload cx 0 dX11_laysRows_145 rfl ?_
            obtain ⟨x46, hxx46, h⟩ := bind_ok h
            have Kx46 : Og p l e s m args below meth c Γ 9 3 64 σ none ρ 250 [(0, va_rf (some t)), (1, .int p1), (2, .int (q1 * (hpA σ a3 j5))), (3, .int (hpI σ 369 t)), (4, .int x46.1)] [] x46.2 := by
              refine k_goto cx 69 dX11_laysRows_250 (by decide) ?_
              exact ihx22 _ _ h
            have h := hxx46
            refine k_icmp_gt cx 177 dX11_laysRows_147 (by decide) (fun c47 => ?_) (fun c47 => ?_)
            · have h := ite_t h c47
              refine k_iload cx 1 dX11_laysRows_177 rfl ?_
              refine k_iconst cx 1 dX11_laysRows_179 (by decide) ?_
              refine k_icmp_ne cx 210 dX11_laysRows_180 (by decide) (fun c48 => ?_) (fun c48 => ?_)
              · have h := ite_t h c48
                refine k_aload_n cx 2 dX11_laysRows_210 rfl rfl ?_
                refine q_getR cx fl_X11_31 g24 dX11_laysRows_211 ?_
                refine k_iload cx 8 dX11_laysRows_214 rfl ?_
                refine k_iload cx 0 dX11_laysRows_216 rfl ?_
                obtain ⟨a49, g50, h⟩ := bind_ok h
                obtain ⟨j51, g52, h⟩ := bind_ok h
                refine k_iast cx g50 g52 dX11_laysRows_218 ?_
                refine k_iload cx 6 dX11_laysRows_219 rfl ?_
                refine k_iload cx 0 dX11_laysRows_221 rfl ?_
                refine k_iadd cx dX11_laysRows_223 ?_
                refine k_istore cx [(4, .int (v4 + ((((hpA τ a36 j38) - (hpA τ a40 j42)) - (hpA τ a30 j44)) - x34))), (8, .int ((((hpA τ a36 j38) - (hpA τ a40 j42)) - (hpA τ a30 j44)) - x34)), (7, .int x34), (0, va_rf (some t)), (1, .int p1), (2, .int (q1 * (hpA σ a3 j5))), (3, .int (hpI σ 369 t)), (5, .int q28), (6, .int ((hpI τ 369 a23) - 1))] dX11_laysRows_224 (by decide) (by simp [cat_rf, cat_i, cat_j]) ?_
                refine k_aload_n cx 3 dX11_laysRows_226 rfl rfl ?_
                refine k_iload_n cx 4 dX11_laysRows_227 rfl rfl ?_
                refine k_aload_n cx 3 dX11_laysRows_228 rfl rfl ?_
                refine q_getI cx fl_X11_150 g24 dX11_laysRows_229 ?_
                refine k_iload_n cx 6 dX11_laysRows_232 rfl rfl ?_
                refine k_isub cx dX11_laysRows_233 ?_
                refine k_iload_n cx 5 dX11_laysRows_234 rfl rfl ?_
                refine k_aload_n cx 3 dX11_laysRows_235 rfl rfl ?_
                refine q_getR cx fl_X11_7 g24 dX11_laysRows_236 ?_
                refine k_sipush cx 2044 dX11_laysRows_239 (by decide) ?_
                obtain ⟨a53, g54, h⟩ := bind_ok h
                obtain ⟨j55, g56, h⟩ := bind_ok h
                refine k_iald cx g54 g56 dX11_laysRows_242 ?_
                refine k_iadd cx dX11_laysRows_243 ?_
                refine k_iload cx 0 dX11_laysRows_244 rfl ?_
                refine k_iconst cx 1 dX11_laysRows_246 (by decide) ?_
                obtain ⟨q57, g58, h⟩ := bind_ok h
                refine k_callV cx iv_X11_156 (ci := 11) rfl (by decide) (w_X11_begins (dn_some g24).2 g58) g24 (As := [.int p1, .int ((hpI (stA τ a49 j51 ((((hpA τ a36 j38) - (hpA τ a40 j42)) - (hpA τ a30 j44)) - x34)) 369 a23) - (hpI σ 369 t)), .int ((q1 * (hpA σ a3 j5)) + (hpA (stA τ a49 j51 ((((hpA τ a36 j38) - (hpA τ a40 j42)) - (hpA τ a30 j44)) - x34)) a53 j55)), .int (v4 + ((((hpA τ a36 j38) - (hpA τ a40 j42)) - (hpA τ a30 j44)) - x34)), .int 1]) rfl rfl ⟨Nat.le_of_ble_eq_true rfl, Nat.le_of_ble_eq_true rfl⟩ (by simp [cat_rf, cat_i, cat_j]) dX11_laysRows_247 ?_
                refine k_sub [3, 4, 5, 6, 0] rfl ?_
                obtain rfl := Option.some.inj h
                exact Kx46
              · have h := ite_f h c48
                refine k_aload_n cx 2 dX11_laysRows_183 rfl rfl ?_
                refine k_iload_n cx 3 dX11_laysRows_184 rfl rfl ?_
                refine k_aload_n cx 2 dX11_laysRows_185 rfl rfl ?_
                refine q_getI cx fl_X11_150 g24 dX11_laysRows_186 ?_
                refine k_iload_n cx 5 dX11_laysRows_189 rfl rfl ?_
                refine k_isub cx dX11_laysRows_190 ?_
                refine k_iload_n cx 4 dX11_laysRows_191 rfl rfl ?_
                refine k_aload_n cx 2 dX11_laysRows_192 rfl rfl ?_
                refine q_getR cx fl_X11_7 g24 dX11_laysRows_193 ?_
                refine k_sipush cx 2044 dX11_laysRows_196 (by decide) ?_
                obtain ⟨j59, g60, h⟩ := bind_ok h
                refine k_iald cx g37 g60 dX11_laysRows_199 ?_
                refine k_iadd cx dX11_laysRows_200 ?_
                refine k_iload cx 6 dX11_laysRows_201 rfl ?_
                refine k_iconst cx 0 dX11_laysRows_203 (by decide) ?_
                obtain ⟨q61, g62, h⟩ := bind_ok h
                refine k_callV cx iv_X11_156 (ci := 11) rfl (by decide) (w_X11_begins (dn_some g24).2 g62) g24 (As := [.int p1, .int ((hpI τ 369 a23) - (hpI σ 369 t)), .int ((q1 * (hpA σ a3 j5)) + (hpA τ a36 j59)), .int v4, .int 0]) rfl rfl ⟨Nat.le_of_ble_eq_true rfl, Nat.le_of_ble_eq_true rfl⟩ (by simp [cat_rf, cat_i, cat_j]) dX11_laysRows_204 ?_
                refine k_goto cx 250 dX11_laysRows_207 (by decide) ?_
                refine k_sub [2, 3, 4, 5, 6] rfl ?_
                obtain rfl := Option.some.inj h
                exact Kx46
            · have h := ite_f h c47
              refine k_aload_n cx 2 dX11_laysRows_150 rfl rfl ?_
              refine q_getR cx fl_X11_31 g24 dX11_laysRows_151 ?_
              refine k_iload cx 8 dX11_laysRows_154 rfl ?_
              refine k_dup2 cx (by simp [cat_rf, cat_i, cat_j]) (by simp [cat_rf, cat_i, cat_j]) dX11_laysRows_156 ?_
              obtain ⟨j63, g64, h⟩ := bind_ok h
              refine k_iald cx g31 g64 dX11_laysRows_157 ?_
              refine k_iload cx 1 dX11_laysRows_158 rfl ?_
              refine k_iload cx 7 dX11_laysRows_160 rfl ?_
              refine k_iadd cx dX11_laysRows_162 ?_
              refine k_iadd cx dX11_laysRows_163 ?_
              obtain ⟨a65, g66, h⟩ := bind_ok h
              obtain ⟨j67, g68, h⟩ := bind_ok h
              refine k_iast cx g66 g68 dX11_laysRows_164 ?_
              refine k_iload cx 6 dX11_laysRows_165 rfl ?_
              refine k_iload cx 7 dX11_laysRows_167 rfl ?_
              refine k_iconst cx 1 dX11_laysRows_169 (by decide) ?_
              refine k_iadd cx dX11_laysRows_170 ?_
              refine k_iadd cx dX11_laysRows_171 ?_
              refine k_istore cx [(4, .int (v4 + (q28 + 1))), (8, .int ((((hpA τ a36 j38) - (hpA τ a40 j42)) - (hpA τ a30 j44)) - x34)), (7, .int x34), (0, va_rf (some t)), (1, .int p1), (2, .int (q1 * (hpA σ a3 j5))), (3, .int (hpI σ 369 t)), (5, .int q28), (6, .int ((hpI τ 369 a23) - 1))] dX11_laysRows_172 (by decide) (by simp [cat_rf, cat_i, cat_j]) ?_
              refine k_goto cx 250 dX11_laysRows_174 (by decide) ?_
              refine k_sub [3, 4, 5, 6, 0] rfl ?_
              obtain rfl := Option.some.inj h
              exact Kx46
          have h := hxx34
          refine k_if_le cx 111 dX11_laysRows_104 (by decide) (fun c35 => ?_) (fun c35 => ?_)
          · have h := ite_t h c35
            refine k_iconst cx 0 dX11_laysRows_111 (by decide) ?_
            refine k_sub [2, 3, 4, 5, 6, 1, 0] rfl ?_
            obtain rfl := Option.some.inj h
            exact Kx34
          · have h := ite_f h c35
            refine k_iconst cx 1 dX11_laysRows_107 (by decide) ?_
            refine k_goto cx 112 dX11_laysRows_108 (by decide) ?_
            refine k_sub [2, 3, 4, 5, 6, 1, 0] rfl ?_
            obtain rfl := Option.some.inj h
            exact Kx34
    refine k_sub [1, 2, 3, 4, 0] rfl ?_
    exact KLx22 FU _ _ hxx22
  have h := hxx9
  refine k_if_eq cx 60 dX11_laysRows_29 (by decide) (fun c10 => ?_) (fun c10 => ?_)
  · have h := ite_t h c10
    refine k_iload_n cx 1 dX11_laysRows_60 rfl rfl ?_
    refine k_sub [2, 3, 1, 0] rfl ?_
    obtain rfl := Option.some.inj h
    exact Kx9
  · have h := ite_f h c10
    refine k_aload_n cx 2 dX11_laysRows_32 rfl rfl ?_
    refine q_getR cx fl_X11_28 hk0 dX11_laysRows_33 ?_
    refine k_aload_n cx 2 dX11_laysRows_36 rfl rfl ?_
    refine q_getI cx fl_X11_150 hk0 dX11_laysRows_37 ?_
    refine k_iconst cx 1 dX11_laysRows_40 (by decide) ?_
    refine k_isub cx dX11_laysRows_41 ?_
    obtain ⟨a11, g12, h⟩ := bind_ok h
    obtain ⟨j13, g14, h⟩ := bind_ok h
    refine k_iald cx g12 g14 dX11_laysRows_42 ?_
    refine k_aload_n cx 2 dX11_laysRows_43 rfl rfl ?_
    refine q_getR cx fl_X11_31 hk0 dX11_laysRows_44 ?_
    refine k_aload_n cx 2 dX11_laysRows_47 rfl rfl ?_
    refine q_getI cx fl_X11_150 hk0 dX11_laysRows_48 ?_
    refine k_iconst cx 1 dX11_laysRows_51 (by decide) ?_
    refine k_isub cx dX11_laysRows_52 ?_
    obtain ⟨a15, g16, h⟩ := bind_ok h
    obtain ⟨j17, g18, h⟩ := bind_ok h
    refine k_iald cx g16 g18 dX11_laysRows_53 ?_
    refine k_iadd cx dX11_laysRows_54 ?_
    refine k_iconst cx 1 dX11_laysRows_55 (by decide) ?_
    refine k_iadd cx dX11_laysRows_56 ?_
    refine k_goto cx 61 dX11_laysRows_57 (by decide) ?_
    refine k_sub [2, 3, 1, 0] rfl ?_
    obtain rfl := Option.some.inj h
    exact Kx9

set_option maxRecDepth 100000 in
set_option maxHeartbeats 4000000 in
theorem w_X11_turns {Γ : GE} {σ : St} {t : Nat} {ρ : St} (hk : hpK σ t = 11) (h : f_X11_turns σ t = some ρ) : Ct Γ yX11_turns cX11_turns 1 none 0 0 [va_rf (some t)] σ none ρ := by
  refine ct_intro (own := RX11) (L0 := [(0, va_rf (some t))]) (by decide +kernel) rfl (by simp [lg_sl, cat_rf, cat_i, cat_j]) (by simp [lv_args, cat_rf, cat_i, cat_j]) ?_
  intro p l e s m args below meth c hr hlk hin cx
  have hk0 := dn_eq hk
  unfold f_X11_turns at h
  refine k_aload_n cx 0 dX11_turns_0 rfl rfl ?_
  refine k_dup cx (by simp [cat_rf, cat_i, cat_j]) dX11_turns_1 ?_
  refine q_getI cx fl_X11_163 hk0 dX11_turns_2 ?_
  refine k_iconst cx 1 dX11_turns_5 (by decide) ?_
  refine k_iadd cx dX11_turns_6 ?_
  refine q_putI cx pl_X11_163 hk0 dX11_turns_7 ?_
  refine k_aload_n cx 0 dX11_turns_10 rfl rfl ?_
  refine k_iconst cx 0 dX11_turns_11 (by decide) ?_
  refine q_putI cx pl_X11_166 hk0 dX11_turns_12 ?_
  refine k_aload_n cx 0 dX11_turns_15 rfl rfl ?_
  refine k_iconst cx 1 dX11_turns_16 (by decide) ?_
  refine q_putZ cx pl_X11_169 hk0 gz_1 dX11_turns_17 ?_
  have h := Option.some.inj h
  exact k_vret cx hr hlk rfl (by rw [← h]) dX11_turns_20
set_option maxRecDepth 100000 in
set_option maxHeartbeats 4000000 in
theorem w_X11_paginates {Γ : GE} {σ : St} {t : Nat} {p1 : Int32} {ρ : St} (hk : hpK σ t = 11) (h : f_X11_paginates σ t p1 = some ρ) : Ct Γ yX11_paginates cX11_paginates 7 none 2 43 [va_rf (some t), .int p1] σ none ρ := by
  refine ct_intro (own := RX11) (L0 := [(0, va_rf (some t)), (1, .int p1)]) (by decide +kernel) rfl (by simp [lg_sl, cat_rf, cat_i, cat_j]) (by simp [lv_args, cat_rf, cat_i, cat_j]) ?_
  intro p l e s m args below meth c hr hlk hin cx
  have hk0 := dn_eq hk
  unfold f_X11_paginates at h
  refine k_aload_n cx 0 dX11_paginates_0 rfl rfl ?_
  refine q_getR cx fl_X11_52 hk0 dX11_paginates_1 ?_
  refine k_iload_n cx 1 dX11_paginates_4 rfl rfl ?_
  obtain ⟨a1, g2, h⟩ := bind_ok h
  obtain ⟨j3, g4, h⟩ := bind_ok h
  refine k_iald cx g2 g4 dX11_paginates_5 ?_
  refine k_istore_n cx (i := 2) [(2, .int (hpA σ a1 j3)), (0, va_rf (some t)), (1, .int p1)] dX11_paginates_6 rfl (by decide) (by simp [cat_rf, cat_i, cat_j]) ?_
  refine k_aload_n cx 1 dX11_paginates_7 rfl rfl ?_
  refine q_getR cx fl_X11_7 hk0 dX11_paginates_8 ?_
  refine k_sipush cx 2042 dX11_paginates_11 (by decide) ?_
  obtain ⟨a5, g6, h⟩ := bind_ok h
  obtain ⟨j7, g8, h⟩ := bind_ok h
  refine k_iald cx g6 g8 dX11_paginates_14 ?_
  refine k_istore_n cx (i := 3) [(3, .int (hpA σ a5 j7)), (2, .int (hpA σ a1 j3)), (0, va_rf (some t)), (1, .int p1)] dX11_paginates_15 rfl (by decide) (by simp [cat_rf, cat_i, cat_j]) ?_
  refine k_aload_n cx 2 dX11_paginates_16 rfl rfl ?_
  refine k_iload_n cx 3 dX11_paginates_17 rfl rfl ?_
  obtain ⟨q9, g10, h⟩ := bind_ok h
  refine k_callV cx iv_X11_140 (ci := 11) rfl (by decide) (w_X11_beginsStanza (dn_some hk0).2 g10) hk0 (As := [.int p1]) rfl rfl ⟨Nat.le_of_ble_eq_true rfl, Nat.le_of_ble_eq_true rfl⟩ (by simp [cat_rf, cat_i, cat_j]) dX11_paginates_18 ?_
  obtain ⟨x11, hxx11, h⟩ := bind_ok h
  have Kx11 : Og p l e s m args below meth c Γ 7 2 43 σ none ρ 146 [(0, va_rf (some t)), (1, .int p1), (2, .int (hpA σ a1 j3)), (3, .int (hpA σ a5 j7))] [] x11 := by
    refine k_aload_n cx 0 dX11_paginates_146 rfl rfl ?_
    obtain ⟨a41, g42, h⟩ := bind_ok h
    refine q_getR cx fl_X11_49 g42 dX11_paginates_147 ?_
    refine k_iload_n cx 1 dX11_paginates_150 rfl rfl ?_
    obtain ⟨a43, g44, h⟩ := bind_ok h
    obtain ⟨j45, g46, h⟩ := bind_ok h
    refine k_iald cx g44 g46 dX11_paginates_151 ?_
    refine k_istore cx [(4, .int (hpA x11 a43 j45)), (0, va_rf (some t)), (1, .int p1), (2, .int (hpA σ a1 j3)), (3, .int (hpA σ a5 j7))] dX11_paginates_152 (by decide) (by simp [cat_rf, cat_i, cat_j]) ?_
    obtain ⟨x48, hxx48, h⟩ := bind_ok h
    have Kx48 : Og p l e s m args below meth c Γ 7 2 43 σ none ρ 222 [] [] x48 := by
      have h := Option.some.inj h
      exact k_vret cx hr hlk rfl (by rw [← h]) dX11_paginates_222
    have KLx48 : ∀ (n : Nat) (v4 : Int32) (τ : St), LX11_paginates_154 n t p1 (hpA σ a1 j3) (hpA σ a5 j7) v4 τ = some x48 → Og p l e s m args below meth c Γ 7 2 43 σ none ρ 154 [(0, va_rf (some t)), (1, .int p1), (2, .int (hpA σ a1 j3)), (3, .int (hpA σ a5 j7)), (4, .int v4)] [] τ := by
      intro n
      induction n with
      | zero => intro _ _ h; cases (show (none : Option _) = some x48 from h)
      | succ n ihx48 =>
        intro v4 τ h
        rw [LX11_paginates_154] at h
        refine k_iload cx 4 dX11_paginates_154 rfl ?_
        refine k_aload_n cx 0 dX11_paginates_156 rfl rfl ?_
        obtain ⟨a49, g50, h⟩ := bind_ok h
        refine q_getR cx fl_X11_49 g50 dX11_paginates_157 ?_
        refine k_iload_n cx 1 dX11_paginates_160 rfl rfl ?_
        obtain ⟨a51, g52, h⟩ := bind_ok h
        obtain ⟨j53, g54, h⟩ := bind_ok h
        refine k_iald cx g52 g54 dX11_paginates_161 ?_
        refine k_iload_n cx 2 dX11_paginates_162 rfl rfl ?_
        refine k_iadd cx dX11_paginates_163 ?_
        refine k_icmp_ge cx 222 dX11_paginates_164 (by decide) (fun c55 => ?_) (fun c55 => ?_)
        · have h := ite_t h c55
          refine k_sub [] rfl ?_
          obtain rfl := Option.some.inj h
          exact Kx48
        · have h := ite_f h c55
          refine k_aload_n cx 0 dX11_paginates_167 rfl rfl ?_
          refine q_getI cx fl_X11_166 g50 dX11_paginates_168 ?_
          refine k_iload_n cx 3 dX11_paginates_171 rfl rfl ?_
          obtain ⟨x56, hxx56, h⟩ := bind_ok h
          have Kx56 : Og p l e s m args below meth c Γ 7 2 43 σ none ρ 179 [(0, va_rf (some t)), (1, .int p1), (2, .int (hpA σ a1 j3)), (3, .int (hpA σ a5 j7)), (4, .int v4)] [] x56 := by
            refine k_aload_n cx 0 dX11_paginates_179 rfl rfl ?_
            obtain ⟨a60, g61, h⟩ := bind_ok h
            refine q_getR cx fl_X11_40 g61 dX11_paginates_180 ?_
            refine k_iload cx 4 dX11_paginates_183 rfl ?_
            refine k_aload_n cx 0 dX11_paginates_185 rfl rfl ?_
            refine q_getI cx fl_X11_163 g61 dX11_paginates_186 ?_
            obtain ⟨a62, g63, h⟩ := bind_ok h
            obtain ⟨j64, g65, h⟩ := bind_ok h
            refine k_iast cx g63 g65 dX11_paginates_189 ?_
            refine k_aload_n cx 0 dX11_paginates_190 rfl rfl ?_
            refine q_getR cx fl_X11_43 g61 dX11_paginates_191 ?_
            refine k_iload cx 4 dX11_paginates_194 rfl ?_
            refine k_aload_n cx 0 dX11_paginates_196 rfl rfl ?_
            refine q_getI cx fl_X11_166 g61 dX11_paginates_197 ?_
            obtain ⟨a66, g67, h⟩ := bind_ok h
            obtain ⟨j68, g69, h⟩ := bind_ok h
            refine k_iast cx g67 g69 dX11_paginates_200 ?_
            refine k_aload_n cx 0 dX11_paginates_201 rfl rfl ?_
            refine k_dup cx (by simp [cat_rf, cat_i, cat_j]) dX11_paginates_202 ?_
            refine q_getI cx fl_X11_166 g61 dX11_paginates_203 ?_
            refine k_iconst cx 1 dX11_paginates_206 (by decide) ?_
            refine k_iadd cx dX11_paginates_207 ?_
            refine q_putI cx pl_X11_166 g61 dX11_paginates_208 ?_
            refine k_aload_n cx 0 dX11_paginates_211 rfl rfl ?_
            refine k_iconst cx 0 dX11_paginates_212 (by decide) ?_
            refine q_putZ cx pl_X11_169 g61 gz_0 dX11_paginates_213 ?_
            refine k_iinc cx 4 [(4, .int (v4 + 1)), (0, va_rf (some t)), (1, .int p1), (2, .int (hpA σ a1 j3)), (3, .int (hpA σ a5 j7))] (v4 + 1) dX11_paginates_216 rfl rfl (by decide) (by simp [cat_rf, cat_i, cat_j]) ?_
            refine k_goto cx 154 dX11_paginates_219 (by decide) ?_
            refine k_sub [1, 2, 3, 4, 0] rfl ?_
            exact ihx48 _ _ h
          have h := hxx56
          refine k_icmp_ne cx 179 dX11_paginates_172 (by decide) (fun c57 => ?_) (fun c57 => ?_)
          · have h := ite_t h c57
            obtain rfl := Option.some.inj h
            exact Kx56
          · have h := ite_f h c57
            refine k_aload_n cx 0 dX11_paginates_175 rfl rfl ?_
            obtain ⟨q58, g59, h⟩ := bind_ok h
            refine k_callV cx iv_X11_173 (ci := 11) rfl (by decide) (w_X11_turns (dn_some g50).2 g59) g50 (As := []) rfl rfl ⟨Nat.le_of_ble_eq_true rfl, Nat.le_of_ble_eq_true rfl⟩ (by simp [cat_rf, cat_i, cat_j]) dX11_paginates_176 ?_
            obtain rfl := Option.some.inj h
            exact Kx56
    refine k_sub [1, 2, 3, 4, 0] rfl ?_
    exact KLx48 FU _ _ hxx48
  have h := hxx11
  refine k_if_eq cx 125 dX11_paginates_21 (by decide) (fun c12 => ?_) (fun c12 => ?_)
  · have h := ite_t h c12
    refine k_aload_n cx 2 dX11_paginates_125 rfl rfl ?_
    refine q_getI cx fl_X11_169 hk0 dX11_paginates_126 ?_
    refine k_if_ne cx 146 dX11_paginates_129 (by decide) (fun c13 => ?_) (fun c13 => ?_)
    · have h := ite_t h c13
      refine k_sub [2, 3, 1, 0] rfl ?_
      obtain rfl := Option.some.inj h
      exact Kx11
    · have h := ite_f h c13
      refine k_iload_n cx 0 dX11_paginates_132 rfl rfl ?_
      refine k_aload_n cx 2 dX11_paginates_133 rfl rfl ?_
      refine q_getI cx fl_X11_166 hk0 dX11_paginates_134 ?_
      refine k_isub cx dX11_paginates_137 ?_
      refine k_iload_n cx 1 dX11_paginates_138 rfl rfl ?_
      refine k_icmp_ge cx 146 dX11_paginates_139 (by decide) (fun c14 => ?_) (fun c14 => ?_)
      · have h := ite_t h c14
        refine k_sub [2, 3, 1, 0] rfl ?_
        obtain rfl := Option.some.inj h
        exact Kx11
      · have h := ite_f h c14
        refine k_aload_n cx 2 dX11_paginates_142 rfl rfl ?_
        obtain ⟨q15, g16, h⟩ := bind_ok h
        refine k_callV cx iv_X11_173 (ci := 11) rfl (by decide) (w_X11_turns (dn_some hk0).2 g16) hk0 (As := []) rfl rfl ⟨Nat.le_of_ble_eq_true rfl, Nat.le_of_ble_eq_true rfl⟩ (by simp [cat_rf, cat_i, cat_j]) dX11_paginates_143 ?_
        refine k_sub [2, 3, 1, 0] rfl ?_
        obtain rfl := Option.some.inj h
        exact Kx11
  · have h := ite_f h c12
    refine k_aload_n cx 2 dX11_paginates_24 rfl rfl ?_
    refine q_getR cx fl_X11_55 hk0 dX11_paginates_25 ?_
    refine k_aload_n cx 2 dX11_paginates_28 rfl rfl ?_
    refine q_getR cx fl_X11_46 hk0 dX11_paginates_29 ?_
    refine k_iload_n cx 3 dX11_paginates_32 rfl rfl ?_
    obtain ⟨a17, g18, h⟩ := bind_ok h
    obtain ⟨j19, g20, h⟩ := bind_ok h
    refine k_iald cx g18 g20 dX11_paginates_33 ?_
    obtain ⟨a21, g22, h⟩ := bind_ok h
    obtain ⟨j23, g24, h⟩ := bind_ok h
    refine k_iald cx g22 g24 dX11_paginates_34 ?_
    refine k_istore cx [(4, .int (hpA σ a21 j23)), (3, .int (hpA σ a5 j7)), (2, .int (hpA σ a1 j3)), (0, va_rf (some t)), (1, .int p1)] dX11_paginates_35 (by decide) (by simp [cat_rf, cat_i, cat_j]) ?_
    refine k_iload_n cx 1 dX11_paginates_37 rfl rfl ?_
    refine k_aload_n cx 3 dX11_paginates_38 rfl rfl ?_
    refine q_getI cx fl_X11_166 hk0 dX11_paginates_39 ?_
    refine k_isub cx dX11_paginates_42 ?_
    refine k_iconst cx 1 dX11_paginates_43 (by decide) ?_
    refine k_isub cx dX11_paginates_44 ?_
    refine k_istore cx [(5, .int (((hpA σ a5 j7) - (hpI σ 375 t)) - 1)), (4, .int (hpA σ a21 j23)), (3, .int (hpA σ a5 j7)), (2, .int (hpA σ a1 j3)), (0, va_rf (some t)), (1, .int p1)] dX11_paginates_45 (by decide) (by simp [cat_rf, cat_i, cat_j]) ?_
    refine k_iload cx 1 dX11_paginates_47 rfl ?_
    refine k_aload_n cx 4 dX11_paginates_49 rfl rfl ?_
    refine q_getR cx fl_X11_7 hk0 dX11_paginates_50 ?_
    refine k_sipush cx 2045 dX11_paginates_53 (by decide) ?_
    obtain ⟨j25, g26, h⟩ := bind_ok h
    refine k_iald cx g6 g26 dX11_paginates_56 ?_
    obtain ⟨x27, hxx27, h⟩ := bind_ok h
    have Kx27 : Og p l e s m args below meth c Γ 7 2 43 σ none ρ 78 [(0, va_rf (some t)), (1, .int p1), (2, .int (hpA σ a1 j3)), (3, .int (hpA σ a5 j7)), (5, .int (((hpA σ a5 j7) - (hpI σ 375 t)) - 1))] [.int x27] σ := by
      refine k_istore cx [(6, .int x27), (0, va_rf (some t)), (1, .int p1), (2, .int (hpA σ a1 j3)), (3, .int (hpA σ a5 j7)), (5, .int (((hpA σ a5 j7) - (hpI σ 375 t)) - 1))] dX11_paginates_78 (by decide) (by simp [cat_rf, cat_i, cat_j]) ?_
      refine k_aload_n cx 1 dX11_paginates_80 rfl rfl ?_
      refine q_getI cx fl_X11_169 hk0 dX11_paginates_81 ?_
      obtain ⟨x31, hxx31, h⟩ := bind_ok h
      have Kx31 : Og p l e s m args below meth c Γ 7 2 43 σ none ρ 122 [(0, va_rf (some t)), (1, .int p1), (2, .int (hpA σ a1 j3)), (3, .int (hpA σ a5 j7))] [] x31 := by
        refine k_goto cx 146 dX11_paginates_122 (by decide) ?_
        obtain rfl := Option.some.inj h
        exact Kx11
      have h := hxx31
      refine k_if_ne cx 105 dX11_paginates_84 (by decide) (fun c32 => ?_) (fun c32 => ?_)
      · have h := ite_t h c32
        refine k_aload_n cx 1 dX11_paginates_105 rfl rfl ?_
        refine q_getI cx fl_X11_169 hk0 dX11_paginates_106 ?_
        refine k_if_ne cx 122 dX11_paginates_109 (by decide) (fun c33 => ?_) (fun c33 => ?_)
        · have h := ite_t h c33
          refine k_sub [1, 2, 3, 4] rfl ?_
          obtain rfl := Option.some.inj h
          exact Kx31
        · have h := ite_f h c33
          refine k_aload_n cx 1 dX11_paginates_112 rfl rfl ?_
          refine k_dup cx (by simp [cat_rf, cat_i, cat_j]) dX11_paginates_113 ?_
          refine q_getI cx fl_X11_166 hk0 dX11_paginates_114 ?_
          refine k_iconst cx 1 dX11_paginates_117 (by decide) ?_
          refine k_iadd cx dX11_paginates_118 ?_
          refine q_putI cx pl_X11_166 hk0 dX11_paginates_119 ?_
          refine k_sub [1, 2, 3, 4] rfl ?_
          obtain rfl := Option.some.inj h
          exact Kx31
      · have h := ite_f h c32
        refine k_iload cx 5 dX11_paginates_87 rfl ?_
        refine k_iload_n cx 3 dX11_paginates_89 rfl rfl ?_
        refine k_icmp_lt cx 98 dX11_paginates_90 (by decide) (fun c34 => ?_) (fun c34 => ?_)
        · have h := ite_t h c34
          refine k_aload_n cx 1 dX11_paginates_98 rfl rfl ?_
          obtain ⟨q35, g36, h⟩ := bind_ok h
          refine k_callV cx iv_X11_173 (ci := 11) rfl (by decide) (w_X11_turns (dn_some hk0).2 g36) hk0 (As := []) rfl rfl ⟨Nat.le_of_ble_eq_true rfl, Nat.le_of_ble_eq_true rfl⟩ (by simp [cat_rf, cat_i, cat_j]) dX11_paginates_99 ?_
          refine k_goto cx 122 dX11_paginates_102 (by decide) ?_
          refine k_sub [1, 2, 3, 4] rfl ?_
          obtain rfl := Option.some.inj h
          exact Kx31
        · have h := ite_f h c34
          refine k_iload cx 0 dX11_paginates_93 rfl ?_
          refine k_if_eq cx 105 dX11_paginates_95 (by decide) (fun c37 => ?_) (fun c37 => ?_)
          · have h := ite_t h c37
            refine k_aload_n cx 1 dX11_paginates_105 rfl rfl ?_
            refine q_getI cx fl_X11_169 hk0 dX11_paginates_106 ?_
            refine k_if_ne cx 122 dX11_paginates_109 (by decide) (fun c38 => ?_) (fun c38 => ?_)
            · have h := ite_t h c38
              refine k_sub [1, 2, 3, 4] rfl ?_
              obtain rfl := Option.some.inj h
              exact Kx31
            · have h := ite_f h c38
              refine k_aload_n cx 1 dX11_paginates_112 rfl rfl ?_
              refine k_dup cx (by simp [cat_rf, cat_i, cat_j]) dX11_paginates_113 ?_
              refine q_getI cx fl_X11_166 hk0 dX11_paginates_114 ?_
              refine k_iconst cx 1 dX11_paginates_117 (by decide) ?_
              refine k_iadd cx dX11_paginates_118 ?_
              refine q_putI cx pl_X11_166 hk0 dX11_paginates_119 ?_
              refine k_sub [1, 2, 3, 4] rfl ?_
              obtain rfl := Option.some.inj h
              exact Kx31
          · have h := ite_f h c37
            refine k_aload_n cx 1 dX11_paginates_98 rfl rfl ?_
            obtain ⟨q39, g40, h⟩ := bind_ok h
            refine k_callV cx iv_X11_173 (ci := 11) rfl (by decide) (w_X11_turns (dn_some hk0).2 g40) hk0 (As := []) rfl rfl ⟨Nat.le_of_ble_eq_true rfl, Nat.le_of_ble_eq_true rfl⟩ (by simp [cat_rf, cat_i, cat_j]) dX11_paginates_99 ?_
            refine k_goto cx 122 dX11_paginates_102 (by decide) ?_
            refine k_sub [1, 2, 3, 4] rfl ?_
            obtain rfl := Option.some.inj h
            exact Kx31
    have h := hxx27
    refine k_icmp_gt cx 77 dX11_paginates_57 (by decide) (fun c28 => ?_) (fun c28 => ?_)
    · have h := ite_t h c28
      refine k_iconst cx 0 dX11_paginates_77 (by decide) ?_
      refine k_sub [4, 5, 3, 2, 0] rfl ?_
      obtain rfl := Option.some.inj h
      exact Kx27
    · have h := ite_f h c28
      refine k_iload cx 1 dX11_paginates_60 rfl ?_
      refine k_iload_n cx 2 dX11_paginates_62 rfl rfl ?_
      refine k_icmp_gt cx 77 dX11_paginates_63 (by decide) (fun c29 => ?_) (fun c29 => ?_)
      · have h := ite_t h c29
        refine k_iconst cx 0 dX11_paginates_77 (by decide) ?_
        refine k_sub [4, 5, 3, 2, 0] rfl ?_
        obtain rfl := Option.some.inj h
        exact Kx27
      · have h := ite_f h c29
        refine k_iload cx 0 dX11_paginates_66 rfl ?_
        refine k_iload cx 1 dX11_paginates_68 rfl ?_
        refine k_icmp_ge cx 77 dX11_paginates_70 (by decide) (fun c30 => ?_) (fun c30 => ?_)
        · have h := ite_t h c30
          refine k_iconst cx 0 dX11_paginates_77 (by decide) ?_
          refine k_sub [4, 5, 3, 2, 0] rfl ?_
          obtain rfl := Option.some.inj h
          exact Kx27
        · have h := ite_f h c30
          refine k_iconst cx 1 dX11_paginates_73 (by decide) ?_
          refine k_goto cx 78 dX11_paginates_74 (by decide) ?_
          refine k_sub [4, 5, 3, 2, 0] rfl ?_
          obtain rfl := Option.some.inj h
          exact Kx27
set_option maxRecDepth 100000 in
set_option maxHeartbeats 4000000 in
theorem w_X11_draws {Γ : GE} {σ : St} {t : Nat} {ρ : St} (hk : hpK σ t = 11) (h : f_X11_draws σ t = some ρ) : Ct Γ yX11_draws cX11_draws 3 none 4 92 [va_rf (some t)] σ none ρ := by
  refine ct_intro (own := RX11) (L0 := [(0, va_rf (some t))]) (by decide +kernel) rfl (by simp [lg_sl, cat_rf, cat_i, cat_j]) (by simp [lv_args, cat_rf, cat_i, cat_j]) ?_
  intro p l e s m args below meth c hr hlk hin cx
  have hk0 := dn_eq hk
  unfold f_X11_draws at h
  refine k_aload_n cx 0 dX11_draws_0 rfl rfl ?_
  refine k_iconst cx 0 dX11_draws_1 (by decide) ?_
  refine q_putI cx pl_X11_150 hk0 dX11_draws_2 ?_
  refine k_iconst cx (-1) dX11_draws_5 (by decide) ?_
  refine k_istore_n cx (i := 1) [(1, .int (-1)), (0, va_rf (some t))] dX11_draws_6 rfl (by decide) (by simp [cat_rf, cat_i, cat_j]) ?_
  refine k_iconst cx 0 dX11_draws_7 (by decide) ?_
  refine k_istore_n cx (i := 2) [(2, .int 0), (1, .int (-1)), (0, va_rf (some t))] dX11_draws_8 rfl (by decide) (by simp [cat_rf, cat_i, cat_j]) ?_
  obtain ⟨x2, hxx2, h⟩ := bind_ok h
  have Kx2 : Og p l e s m args below meth c Γ 3 4 92 σ none ρ 99 [(0, va_rf (some t))] [] x2 := by
    refine k_aload_n cx 0 dX11_draws_99 rfl rfl ?_
    refine k_iconst cx 0 dX11_draws_100 (by decide) ?_
    obtain ⟨a52, g53, h⟩ := bind_ok h
    refine q_putI cx pl_X11_163 g53 dX11_draws_101 ?_
    refine k_aload_n cx 0 dX11_draws_104 rfl rfl ?_
    refine k_iconst cx 0 dX11_draws_105 (by decide) ?_
    refine q_putI cx pl_X11_166 g53 dX11_draws_106 ?_
    refine k_aload_n cx 0 dX11_draws_109 rfl rfl ?_
    refine k_iconst cx 1 dX11_draws_110 (by decide) ?_
    refine q_putZ cx pl_X11_169 g53 gz_1 dX11_draws_111 ?_
    refine k_iconst cx 0 dX11_draws_114 (by decide) ?_
    refine k_istore_n cx (i := 2) [(2, .int 0), (0, va_rf (some t))] dX11_draws_115 rfl (by decide) (by simp [cat_rf, cat_i, cat_j]) ?_
    obtain ⟨x55, hxx55, h⟩ := bind_ok h
    have Kx55 : Og p l e s m args below meth c Γ 3 4 92 σ none ρ 139 [] [] x55 := by
      have h := Option.some.inj h
      exact k_vret cx hr hlk rfl (by rw [← h]) dX11_draws_139
    have KLx55 : ∀ (n : Nat) (v2 : Int32) (τ : St), LX11_draws_116 n t v2 τ = some x55 → Og p l e s m args below meth c Γ 3 4 92 σ none ρ 116 [(0, va_rf (some t)), (2, .int v2)] [] τ := by
      intro n
      induction n with
      | zero => intro _ _ h; cases (show (none : Option _) = some x55 from h)
      | succ n ihx55 =>
        intro v2 τ h
        rw [LX11_draws_116] at h
        refine k_iload_n cx 1 dX11_draws_116 rfl rfl ?_
        refine k_aload_n cx 0 dX11_draws_117 rfl rfl ?_
        obtain ⟨a56, g57, h⟩ := bind_ok h
        refine q_getR cx fl_X11_7 g57 dX11_draws_118 ?_
        refine k_sipush cx 2040 dX11_draws_121 (by decide) ?_
        obtain ⟨a58, g59, h⟩ := bind_ok h
        obtain ⟨j60, g61, h⟩ := bind_ok h
        refine k_iald cx g59 g61 dX11_draws_124 ?_
        refine k_icmp_ge cx 139 dX11_draws_125 (by decide) (fun c62 => ?_) (fun c62 => ?_)
        · have h := ite_t h c62
          refine k_sub [] rfl ?_
          obtain rfl := Option.some.inj h
          exact Kx55
        · have h := ite_f h c62
          refine k_aload_n cx 0 dX11_draws_128 rfl rfl ?_
          refine k_iload_n cx 1 dX11_draws_129 rfl rfl ?_
          obtain ⟨q63, g64, h⟩ := bind_ok h
          refine k_callV cx iv_X11_179 (ci := 11) rfl (by decide) (w_X11_paginates (dn_some g57).2 g64) g57 (As := [.int v2]) rfl rfl ⟨Nat.le_of_ble_eq_true rfl, Nat.le_of_ble_eq_true rfl⟩ (by simp [cat_rf, cat_i, cat_j]) dX11_draws_130 ?_
          refine k_iinc cx 1 [(2, .int (v2 + 1)), (0, va_rf (some t))] (v2 + 1) dX11_draws_133 rfl rfl (by decide) (by simp [cat_rf, cat_i, cat_j]) ?_
          refine k_goto cx 116 dX11_draws_136 (by decide) ?_
          refine k_sub [1, 0] rfl ?_
          exact ihx55 _ _ h
    refine k_sub [1, 0] rfl ?_
    exact KLx55 FU _ _ hxx55
  have KLx2 : ∀ (n : Nat) (v1 : Int32) (v2 : Int32) (τ : St), LX11_draws_9 n t v1 v2 τ = some x2 → Og p l e s m args below meth c Γ 3 4 92 σ none ρ 9 [(0, va_rf (some t)), (1, .int v1), (2, .int v2)] [] τ := by
    intro n
    induction n with
    | zero => intro _ _ _ h; cases (show (none : Option _) = some x2 from h)
    | succ n ihx2 =>
      intro v1 v2 τ h
      rw [LX11_draws_9] at h
      refine k_iload_n cx 2 dX11_draws_9 rfl rfl ?_
      refine k_aload_n cx 0 dX11_draws_10 rfl rfl ?_
      obtain ⟨a3, g4, h⟩ := bind_ok h
      refine q_getR cx fl_X11_7 g4 dX11_draws_11 ?_
      refine k_sipush cx 2040 dX11_draws_14 (by decide) ?_
      obtain ⟨a5, g6, h⟩ := bind_ok h
      obtain ⟨j7, g8, h⟩ := bind_ok h
      refine k_iald cx g6 g8 dX11_draws_17 ?_
      refine k_icmp_ge cx 99 dX11_draws_18 (by decide) (fun c9 => ?_) (fun c9 => ?_)
      · have h := ite_t h c9
        refine k_sub [0] rfl ?_
        obtain rfl := Option.some.inj h
        exact Kx2
      · have h := ite_f h c9
        refine k_aload_n cx 0 dX11_draws_21 rfl rfl ?_
        refine k_iload_n cx 2 dX11_draws_22 rfl rfl ?_
        obtain ⟨q10, g11, h⟩ := bind_ok h
        refine k_callV cx iv_X11_140 (ci := 11) rfl (by decide) (w_X11_beginsStanza (dn_some g4).2 g11) g4 (As := [.int v2]) rfl rfl ⟨Nat.le_of_ble_eq_true rfl, Nat.le_of_ble_eq_true rfl⟩ (by simp [cat_rf, cat_i, cat_j]) dX11_draws_23 ?_
        obtain ⟨x12, hxx12, h⟩ := bind_ok h
        have Kx12 : Og p l e s m args below meth c Γ 3 4 92 σ none ρ 39 [(0, va_rf (some t)), (1, .int x12.1), (2, .int v2)] [] x12.2 := by
          refine k_aload_n cx 0 dX11_draws_39 rfl rfl ?_
          obtain ⟨a18, g19, h⟩ := bind_ok h
          refine q_getR cx fl_X11_46 g19 dX11_draws_40 ?_
          refine k_iload_n cx 2 dX11_draws_43 rfl rfl ?_
          refine k_iload_n cx 1 dX11_draws_44 rfl rfl ?_
          obtain ⟨a20, g21, h⟩ := bind_ok h
          obtain ⟨j22, g23, h⟩ := bind_ok h
          refine k_iast cx g21 g23 dX11_draws_45 ?_
          refine k_aload_n cx 0 dX11_draws_46 rfl rfl ?_
          refine q_getR cx fl_X11_49 g19 dX11_draws_47 ?_
          refine k_iload_n cx 2 dX11_draws_50 rfl rfl ?_
          refine k_aload_n cx 0 dX11_draws_51 rfl rfl ?_
          refine q_getI cx fl_X11_150 g19 dX11_draws_52 ?_
          obtain ⟨a24, g25, h⟩ := bind_ok h
          obtain ⟨j26, g27, h⟩ := bind_ok h
          refine k_iast cx g25 g27 dX11_draws_55 ?_
          refine k_aload_n cx 0 dX11_draws_56 rfl rfl ?_
          refine k_iload_n cx 2 dX11_draws_57 rfl rfl ?_
          obtain ⟨q28, g29, h⟩ := bind_ok h
          refine k_callV cx iv_X11_176 (ci := 11) rfl (by decide) (w_X11_laysRows (dn_some g19).2 g29) g19 (As := [.int v2]) rfl rfl ⟨Nat.le_of_ble_eq_true rfl, Nat.le_of_ble_eq_true rfl⟩ (by simp [cat_rf, cat_i, cat_j]) dX11_draws_58 ?_
          refine k_aload_n cx 0 dX11_draws_61 rfl rfl ?_
          obtain ⟨a30, g31, h⟩ := bind_ok h
          refine q_getR cx fl_X11_52 g31 dX11_draws_62 ?_
          refine k_iload_n cx 2 dX11_draws_65 rfl rfl ?_
          refine k_aload_n cx 0 dX11_draws_66 rfl rfl ?_
          refine q_getI cx fl_X11_150 g31 dX11_draws_67 ?_
          refine k_aload_n cx 0 dX11_draws_70 rfl rfl ?_
          refine q_getR cx fl_X11_49 g31 dX11_draws_71 ?_
          refine k_iload_n cx 2 dX11_draws_74 rfl rfl ?_
          obtain ⟨a32, g33, h⟩ := bind_ok h
          obtain ⟨j34, g35, h⟩ := bind_ok h
          refine k_iald cx g33 g35 dX11_draws_75 ?_
          refine k_isub cx dX11_draws_76 ?_
          obtain ⟨a36, g37, h⟩ := bind_ok h
          obtain ⟨j38, g39, h⟩ := bind_ok h
          refine k_iast cx g37 g39 dX11_draws_77 ?_
          refine k_aload_n cx 0 dX11_draws_78 rfl rfl ?_
          refine q_getR cx fl_X11_55 g31 dX11_draws_79 ?_
          refine k_iload_n cx 1 dX11_draws_82 rfl rfl ?_
          refine k_dup2 cx (by simp [cat_rf, cat_i, cat_j]) (by simp [cat_rf, cat_i, cat_j]) dX11_draws_83 ?_
          obtain ⟨a40, g41, h⟩ := bind_ok h
          obtain ⟨j42, g43, h⟩ := bind_ok h
          refine k_iald cx g41 g43 dX11_draws_84 ?_
          refine k_aload_n cx 0 dX11_draws_85 rfl rfl ?_
          refine q_getR cx fl_X11_52 g31 dX11_draws_86 ?_
          refine k_iload_n cx 2 dX11_draws_89 rfl rfl ?_
          obtain ⟨a44, g45, h⟩ := bind_ok h
          obtain ⟨j46, g47, h⟩ := bind_ok h
          refine k_iald cx g45 g47 dX11_draws_90 ?_
          refine k_iadd cx dX11_draws_91 ?_
          obtain ⟨a48, g49, h⟩ := bind_ok h
          obtain ⟨j50, g51, h⟩ := bind_ok h
          refine k_iast cx g49 g51 dX11_draws_92 ?_
          refine k_iinc cx 2 [(2, .int (v2 + 1)), (0, va_rf (some t)), (1, .int x12.1)] (v2 + 1) dX11_draws_93 rfl rfl (by decide) (by simp [cat_rf, cat_i, cat_j]) ?_
          refine k_goto cx 9 dX11_draws_96 (by decide) ?_
          refine k_sub [1, 2, 0] rfl ?_
          exact ihx2 _ _ _ h
        have h := hxx12
        refine k_if_eq cx 39 dX11_draws_26 (by decide) (fun c13 => ?_) (fun c13 => ?_)
        · have h := ite_t h c13
          obtain rfl := Option.some.inj h
          exact Kx12
        · have h := ite_f h c13
          refine k_iinc cx 1 [(1, .int (v1 + 1)), (0, va_rf (some t)), (2, .int v2)] (v1 + 1) dX11_draws_29 rfl rfl (by decide) (by simp [cat_rf, cat_i, cat_j]) ?_
          refine k_aload_n cx 1 dX11_draws_32 rfl rfl ?_
          refine q_getR cx fl_X11_55 g4 dX11_draws_33 ?_
          refine k_iload_n cx 0 dX11_draws_36 rfl rfl ?_
          refine k_iconst cx 0 dX11_draws_37 (by decide) ?_
          obtain ⟨a14, g15, h⟩ := bind_ok h
          obtain ⟨j16, g17, h⟩ := bind_ok h
          refine k_iast cx g15 g17 dX11_draws_38 ?_
          refine k_sub [1, 0, 2] rfl ?_
          obtain rfl := Option.some.inj h
          exact Kx12
  refine k_sub [2, 1, 0] rfl ?_
  exact KLx2 FU _ _ _ hxx2
set_option maxRecDepth 100000 in
set_option maxHeartbeats 4000000 in
theorem w_X11_pages {Γ : GE} {σ : St} {t : Nat} {ρ : Int32} (hk : hpK σ t = 11) (h : f_X11_pages σ t = some ρ) : Ct Γ yX11_pages cX11_pages 1 (some .int) 0 0 [va_rf (some t)] σ (some (.int ρ)) σ := by
  refine ct_intro (own := RX11) (L0 := [(0, va_rf (some t))]) (by decide +kernel) rfl (by simp [lg_sl, cat_rf, cat_i, cat_j]) (by simp [lv_args, cat_rf, cat_i, cat_j]) ?_
  intro p l e s m args below meth c hr hlk hin cx
  have hk0 := dn_eq hk
  unfold f_X11_pages at h
  refine k_aload_n cx 0 dX11_pages_0 rfl rfl ?_
  refine q_getI cx fl_X11_150 hk0 dX11_pages_1 ?_
  refine k_if_ne cx 11 dX11_pages_4 (by decide) (fun c1 => ?_) (fun c1 => ?_)
  · have h := ite_t h c1
    refine k_aload_n cx 0 dX11_pages_11 rfl rfl ?_
    refine q_getR cx fl_X11_40 hk0 dX11_pages_12 ?_
    refine k_aload_n cx 0 dX11_pages_15 rfl rfl ?_
    refine q_getI cx fl_X11_150 hk0 dX11_pages_16 ?_
    refine k_iconst cx 1 dX11_pages_19 (by decide) ?_
    refine k_isub cx dX11_pages_20 ?_
    obtain ⟨a2, g3, h⟩ := bind_ok h
    obtain ⟨j4, g5, h⟩ := bind_ok h
    refine k_iald cx g3 g5 dX11_pages_21 ?_
    refine k_iconst cx 1 dX11_pages_22 (by decide) ?_
    refine k_iadd cx dX11_pages_23 ?_
    have h := Option.some.inj h
    exact k_iret cx hr hlk (by rw [← h]) rfl dX11_pages_24
  · have h := ite_f h c1
    refine k_iconst cx 0 dX11_pages_7 (by decide) ?_
    refine k_goto cx 24 dX11_pages_8 (by decide) ?_
    have h := Option.some.inj h
    exact k_iret cx hr hlk (by rw [← h]) rfl dX11_pages_24
set_option maxRecDepth 100000 in
set_option maxHeartbeats 4000000 in
theorem w_X11_letters {Γ : GE} {σ : St} {t : Nat} {p1 : Int32} {ρ : Int32} (hk : hpK σ t = 11) (h : f_X11_letters σ t p1 = some ρ) : Ct Γ yX11_letters cX11_letters 2 (some .int) 1 22 [va_rf (some t), .int p1] σ (some (.int ρ)) σ := by
  refine ct_intro (own := RX11) (L0 := [(0, va_rf (some t)), (1, .int p1)]) (by decide +kernel) rfl (by simp [lg_sl, cat_rf, cat_i, cat_j]) (by simp [lv_args, cat_rf, cat_i, cat_j]) ?_
  intro p l e s m args below meth c hr hlk hin cx
  have hk0 := dn_eq hk
  unfold f_X11_letters at h
  refine k_aload_n cx 0 dX11_letters_0 rfl rfl ?_
  refine k_iload_n cx 1 dX11_letters_1 rfl rfl ?_
  refine k_iconst cx 0 dX11_letters_2 (by decide) ?_
  obtain ⟨q1, g2, h⟩ := bind_ok h
  refine k_callV cx iv_X11_130 (ci := 11) rfl (by decide) (w_X11_of (dn_some hk0).2 g2) hk0 (As := [.int p1, .int 0]) rfl rfl ⟨Nat.le_of_ble_eq_true rfl, Nat.le_of_ble_eq_true rfl⟩ (by simp [cat_rf, cat_i, cat_j]) dX11_letters_3 ?_
  refine k_aload_n cx 0 dX11_letters_6 rfl rfl ?_
  refine k_iload_n cx 1 dX11_letters_7 rfl rfl ?_
  refine k_iconst cx 1 dX11_letters_8 (by decide) ?_
  obtain ⟨q3, g4, h⟩ := bind_ok h
  refine k_callV cx iv_X11_130 (ci := 11) rfl (by decide) (w_X11_of (dn_some hk0).2 g4) hk0 (As := [.int p1, .int 1]) rfl rfl ⟨Nat.le_of_ble_eq_true rfl, Nat.le_of_ble_eq_true rfl⟩ (by simp [cat_rf, cat_i, cat_j]) dX11_letters_9 ?_
  refine k_isub cx dX11_letters_12 ?_
  refine k_iconst cx 1 dX11_letters_13 (by decide) ?_
  refine k_iadd cx dX11_letters_14 ?_
  have h := Option.some.inj h
  exact k_iret cx hr hlk (by rw [← h]) rfl dX11_letters_15
set_option maxRecDepth 100000 in
set_option maxHeartbeats 4000000 in
theorem w_X11_linePart {Γ : GE} {σ : St} {t : Nat} {p1 : Int32} {p2 : Int32} {ρ : Int32} (hk : hpK σ t = 11) (h : f_X11_linePart σ t p1 p2 = some ρ) : Ct Γ yX11_linePart cX11_linePart 3 (some .int) 4 87 [va_rf (some t), .int p1, .int p2] σ (some (.int ρ)) σ := by
  refine ct_intro (own := RX11) (L0 := [(0, va_rf (some t)), (1, .int p1), (2, .int p2)]) (by decide +kernel) rfl (by simp [lg_sl, cat_rf, cat_i, cat_j]) (by simp [lv_args, cat_rf, cat_i, cat_j]) ?_
  intro p l e s m args below meth c hr hlk hin cx
  have hk0 := dn_eq hk
  unfold f_X11_linePart at h
  refine k_iload_n cx 2 dX11_linePart_0 rfl rfl ?_
  refine k_switch cx dX11_linePart_1 (by decide) (fun hs => ?_) (by decide) (fun k off ho hs => ?_)
  · have h0 : ¬ p2 = 0 := fun q => by rw [q] at hs; revert hs; decide
    have h1 : ¬ p2 = 1 := fun q => by rw [q] at hs; revert hs; decide
    have h2 : ¬ p2 = 2 := fun q => by rw [q] at hs; revert hs; decide
    have h3 : ¬ p2 = 3 := fun q => by rw [q] at hs; revert hs; decide
    have h4 : ¬ p2 = 4 := fun q => by rw [q] at hs; revert hs; decide
    have h5 : ¬ p2 = 5 := fun q => by rw [q] at hs; revert hs; decide
    have h6 : ¬ p2 = 6 := fun q => by rw [q] at hs; revert hs; decide
    have h7 : ¬ p2 = 7 := fun q => by rw [q] at hs; revert hs; decide
    have h8 : ¬ p2 = 8 := fun q => by rw [q] at hs; revert hs; decide
    have h := ite_f h h0
    have h := ite_f h h1
    have h := ite_f h h2
    have h := ite_f h h3
    have h := ite_f h h4
    have h := ite_f h h5
    have h := ite_f h h6
    have h := ite_f h h7
    have h := ite_f h h8
    refine k_aload_n cx 0 dX11_linePart_120 rfl rfl ?_
    refine q_getR cx fl_X11_46 hk0 dX11_linePart_121 ?_
    refine k_iload_n cx 1 dX11_linePart_124 rfl rfl ?_
    obtain ⟨a24, g25, h⟩ := bind_ok h
    obtain ⟨j26, g27, h⟩ := bind_ok h
    refine k_iald cx g25 g27 dX11_linePart_125 ?_
    have h := Option.some.inj h
    exact k_iret cx hr hlk (by rw [← h]) rfl dX11_linePart_126
  · match k, ho with
    | 0, ho =>
      cases ho
      have hv : p2 = 0 := Int32.toInt_inj.mp (by rw [hs]; rfl)
      have h := ite_t h hv
      refine ⟨by decide, ?_⟩
      refine k_aload_n cx 0 dX11_linePart_52 rfl rfl ?_
      refine k_iload_n cx 1 dX11_linePart_53 rfl rfl ?_
      obtain ⟨q1, g2, h⟩ := bind_ok h
      refine k_callV cx iv_X11_182 (ci := 11) rfl (by decide) (w_X11_letters (dn_some hk0).2 g2) hk0 (As := [.int p1]) rfl rfl ⟨Nat.le_of_ble_eq_true rfl, Nat.le_of_ble_eq_true rfl⟩ (by simp [cat_rf, cat_i, cat_j]) dX11_linePart_54 ?_
      have h := Option.some.inj h
      exact k_iret cx hr hlk (by rw [← h]) rfl dX11_linePart_57
    | 1, ho =>
      cases ho
      have hv : p2 = 1 := Int32.toInt_inj.mp (by rw [hs]; rfl)
      have h := ite_f h (show ¬ p2 = 0 from fun q => by rw [hv] at q; revert q; decide)
      have h := ite_t h hv
      refine ⟨by decide, ?_⟩
      refine k_aload_n cx 0 dX11_linePart_58 rfl rfl ?_
      refine k_iload_n cx 1 dX11_linePart_59 rfl rfl ?_
      refine k_iconst cx 1 dX11_linePart_60 (by decide) ?_
      obtain ⟨q3, g4, h⟩ := bind_ok h
      refine k_callV cx iv_X11_130 (ci := 11) rfl (by decide) (w_X11_of (dn_some hk0).2 g4) hk0 (As := [.int p1, .int 1]) rfl rfl ⟨Nat.le_of_ble_eq_true rfl, Nat.le_of_ble_eq_true rfl⟩ (by simp [cat_rf, cat_i, cat_j]) dX11_linePart_61 ?_
      have h := Option.some.inj h
      exact k_iret cx hr hlk (by rw [← h]) rfl dX11_linePart_64
    | 2, ho =>
      cases ho
      have hv : p2 = 2 := Int32.toInt_inj.mp (by rw [hs]; rfl)
      have h := ite_f h (show ¬ p2 = 0 from fun q => by rw [hv] at q; revert q; decide)
      have h := ite_f h (show ¬ p2 = 1 from fun q => by rw [hv] at q; revert q; decide)
      have h := ite_t h hv
      refine ⟨by decide, ?_⟩
      refine k_aload_n cx 0 dX11_linePart_65 rfl rfl ?_
      refine k_iload_n cx 1 dX11_linePart_66 rfl rfl ?_
      refine k_iconst cx 2 dX11_linePart_67 (by decide) ?_
      obtain ⟨q5, g6, h⟩ := bind_ok h
      refine k_callV cx iv_X11_130 (ci := 11) rfl (by decide) (w_X11_of (dn_some hk0).2 g6) hk0 (As := [.int p1, .int 2]) rfl rfl ⟨Nat.le_of_ble_eq_true rfl, Nat.le_of_ble_eq_true rfl⟩ (by simp [cat_rf, cat_i, cat_j]) dX11_linePart_68 ?_
      have h := Option.some.inj h
      exact k_iret cx hr hlk (by rw [← h]) rfl dX11_linePart_71
    | 3, ho =>
      cases ho
      have hv : p2 = 3 := Int32.toInt_inj.mp (by rw [hs]; rfl)
      have h := ite_f h (show ¬ p2 = 0 from fun q => by rw [hv] at q; revert q; decide)
      have h := ite_f h (show ¬ p2 = 1 from fun q => by rw [hv] at q; revert q; decide)
      have h := ite_f h (show ¬ p2 = 2 from fun q => by rw [hv] at q; revert q; decide)
      have h := ite_t h hv
      refine ⟨by decide, ?_⟩
      refine k_aload_n cx 0 dX11_linePart_72 rfl rfl ?_
      refine k_iload_n cx 1 dX11_linePart_73 rfl rfl ?_
      refine k_iconst cx 3 dX11_linePart_74 (by decide) ?_
      obtain ⟨q7, g8, h⟩ := bind_ok h
      refine k_callV cx iv_X11_130 (ci := 11) rfl (by decide) (w_X11_of (dn_some hk0).2 g8) hk0 (As := [.int p1, .int 3]) rfl rfl ⟨Nat.le_of_ble_eq_true rfl, Nat.le_of_ble_eq_true rfl⟩ (by simp [cat_rf, cat_i, cat_j]) dX11_linePart_75 ?_
      have h := Option.some.inj h
      exact k_iret cx hr hlk (by rw [← h]) rfl dX11_linePart_78
    | 4, ho =>
      cases ho
      have hv : p2 = 4 := Int32.toInt_inj.mp (by rw [hs]; rfl)
      have h := ite_f h (show ¬ p2 = 0 from fun q => by rw [hv] at q; revert q; decide)
      have h := ite_f h (show ¬ p2 = 1 from fun q => by rw [hv] at q; revert q; decide)
      have h := ite_f h (show ¬ p2 = 2 from fun q => by rw [hv] at q; revert q; decide)
      have h := ite_f h (show ¬ p2 = 3 from fun q => by rw [hv] at q; revert q; decide)
      have h := ite_t h hv
      refine ⟨by decide, ?_⟩
      refine k_aload_n cx 0 dX11_linePart_79 rfl rfl ?_
      refine k_iload_n cx 1 dX11_linePart_80 rfl rfl ?_
      obtain ⟨q9, g10, h⟩ := bind_ok h
      refine k_callV cx iv_X11_147 (ci := 11) rfl (by decide) (w_X11_leans (dn_some hk0).2 g10) hk0 (As := [.int p1]) rfl rfl ⟨Nat.le_of_ble_eq_true rfl, Nat.le_of_ble_eq_true rfl⟩ (by simp [cat_rf, cat_i, cat_j]) dX11_linePart_81 ?_
      refine k_if_eq cx 91 dX11_linePart_84 (by decide) (fun c11 => ?_) (fun c11 => ?_)
      · have h := ite_t h c11
        refine k_iconst cx 0 dX11_linePart_91 (by decide) ?_
        have h := Option.some.inj h
        exact k_iret cx hr hlk (by rw [← h]) rfl dX11_linePart_92
      · have h := ite_f h c11
        refine k_iconst cx 1 dX11_linePart_87 (by decide) ?_
        refine k_goto cx 92 dX11_linePart_88 (by decide) ?_
        have h := Option.some.inj h
        exact k_iret cx hr hlk (by rw [← h]) rfl dX11_linePart_92
    | 5, ho =>
      cases ho
      have hv : p2 = 5 := Int32.toInt_inj.mp (by rw [hs]; rfl)
      have h := ite_f h (show ¬ p2 = 0 from fun q => by rw [hv] at q; revert q; decide)
      have h := ite_f h (show ¬ p2 = 1 from fun q => by rw [hv] at q; revert q; decide)
      have h := ite_f h (show ¬ p2 = 2 from fun q => by rw [hv] at q; revert q; decide)
      have h := ite_f h (show ¬ p2 = 3 from fun q => by rw [hv] at q; revert q; decide)
      have h := ite_f h (show ¬ p2 = 4 from fun q => by rw [hv] at q; revert q; decide)
      have h := ite_t h hv
      refine ⟨by decide, ?_⟩
      refine k_aload_n cx 0 dX11_linePart_93 rfl rfl ?_
      refine k_iload_n cx 1 dX11_linePart_94 rfl rfl ?_
      refine k_iconst cx 4 dX11_linePart_95 (by decide) ?_
      obtain ⟨q12, g13, h⟩ := bind_ok h
      refine k_callV cx iv_X11_130 (ci := 11) rfl (by decide) (w_X11_of (dn_some hk0).2 g13) hk0 (As := [.int p1, .int 4]) rfl rfl ⟨Nat.le_of_ble_eq_true rfl, Nat.le_of_ble_eq_true rfl⟩ (by simp [cat_rf, cat_i, cat_j]) dX11_linePart_96 ?_
      have h := Option.some.inj h
      exact k_iret cx hr hlk (by rw [← h]) rfl dX11_linePart_99
    | 6, ho =>
      cases ho
      have hv : p2 = 6 := Int32.toInt_inj.mp (by rw [hs]; rfl)
      have h := ite_f h (show ¬ p2 = 0 from fun q => by rw [hv] at q; revert q; decide)
      have h := ite_f h (show ¬ p2 = 1 from fun q => by rw [hv] at q; revert q; decide)
      have h := ite_f h (show ¬ p2 = 2 from fun q => by rw [hv] at q; revert q; decide)
      have h := ite_f h (show ¬ p2 = 3 from fun q => by rw [hv] at q; revert q; decide)
      have h := ite_f h (show ¬ p2 = 4 from fun q => by rw [hv] at q; revert q; decide)
      have h := ite_f h (show ¬ p2 = 5 from fun q => by rw [hv] at q; revert q; decide)
      have h := ite_t h hv
      refine ⟨by decide, ?_⟩
      refine k_aload_n cx 0 dX11_linePart_100 rfl rfl ?_
      refine k_iload_n cx 1 dX11_linePart_101 rfl rfl ?_
      obtain ⟨q14, g15, h⟩ := bind_ok h
      refine k_callV cx iv_X11_185 (ci := 11) rfl (by decide) (w_X11_numberOf (dn_some hk0).2 g15) hk0 (As := [.int p1]) rfl rfl ⟨Nat.le_of_ble_eq_true rfl, Nat.le_of_ble_eq_true rfl⟩ (by simp [cat_rf, cat_i, cat_j]) dX11_linePart_102 ?_
      have h := Option.some.inj h
      exact k_iret cx hr hlk (by rw [← h]) rfl dX11_linePart_105
    | 7, ho =>
      cases ho
      have hv : p2 = 7 := Int32.toInt_inj.mp (by rw [hs]; rfl)
      have h := ite_f h (show ¬ p2 = 0 from fun q => by rw [hv] at q; revert q; decide)
      have h := ite_f h (show ¬ p2 = 1 from fun q => by rw [hv] at q; revert q; decide)
      have h := ite_f h (show ¬ p2 = 2 from fun q => by rw [hv] at q; revert q; decide)
      have h := ite_f h (show ¬ p2 = 3 from fun q => by rw [hv] at q; revert q; decide)
      have h := ite_f h (show ¬ p2 = 4 from fun q => by rw [hv] at q; revert q; decide)
      have h := ite_f h (show ¬ p2 = 5 from fun q => by rw [hv] at q; revert q; decide)
      have h := ite_f h (show ¬ p2 = 6 from fun q => by rw [hv] at q; revert q; decide)
      have h := ite_t h hv
      refine ⟨by decide, ?_⟩
      refine k_aload_n cx 0 dX11_linePart_106 rfl rfl ?_
      refine q_getR cx fl_X11_49 hk0 dX11_linePart_107 ?_
      refine k_iload_n cx 1 dX11_linePart_110 rfl rfl ?_
      obtain ⟨a16, g17, h⟩ := bind_ok h
      obtain ⟨j18, g19, h⟩ := bind_ok h
      refine k_iald cx g17 g19 dX11_linePart_111 ?_
      have h := Option.some.inj h
      exact k_iret cx hr hlk (by rw [← h]) rfl dX11_linePart_112
    | 8, ho =>
      cases ho
      have hv : p2 = 8 := Int32.toInt_inj.mp (by rw [hs]; rfl)
      have h := ite_f h (show ¬ p2 = 0 from fun q => by rw [hv] at q; revert q; decide)
      have h := ite_f h (show ¬ p2 = 1 from fun q => by rw [hv] at q; revert q; decide)
      have h := ite_f h (show ¬ p2 = 2 from fun q => by rw [hv] at q; revert q; decide)
      have h := ite_f h (show ¬ p2 = 3 from fun q => by rw [hv] at q; revert q; decide)
      have h := ite_f h (show ¬ p2 = 4 from fun q => by rw [hv] at q; revert q; decide)
      have h := ite_f h (show ¬ p2 = 5 from fun q => by rw [hv] at q; revert q; decide)
      have h := ite_f h (show ¬ p2 = 6 from fun q => by rw [hv] at q; revert q; decide)
      have h := ite_f h (show ¬ p2 = 7 from fun q => by rw [hv] at q; revert q; decide)
      have h := ite_t h hv
      refine ⟨by decide, ?_⟩
      refine k_aload_n cx 0 dX11_linePart_113 rfl rfl ?_
      refine q_getR cx fl_X11_52 hk0 dX11_linePart_114 ?_
      refine k_iload_n cx 1 dX11_linePart_117 rfl rfl ?_
      obtain ⟨a20, g21, h⟩ := bind_ok h
      obtain ⟨j22, g23, h⟩ := bind_ok h
      refine k_iald cx g21 g23 dX11_linePart_118 ?_
      have h := Option.some.inj h
      exact k_iret cx hr hlk (by rw [← h]) rfl dX11_linePart_119
    | k + 9, ho => exact absurd ho (by simp)
set_option maxRecDepth 100000 in
set_option maxHeartbeats 4000000 in
theorem w_X11_line {Γ : GE} {σ : St} {t : Nat} {p1 : Int32} {p2 : Int32} {ρ : Int32 × St} (hk : hpK σ t = 11) (h : f_X11_line σ t p1 p2 = some ρ) : Ct Γ yX11_line cX11_line 3 (some .int) 5 114 [va_rf (some t), .int p1, .int p2] σ (some (.int ρ.1)) ρ.2 := by
  refine ct_intro (own := RX11) (L0 := [(0, va_rf (some t)), (1, .int p1), (2, .int p2)]) (by decide +kernel) rfl (by simp [lg_sl, cat_rf, cat_i, cat_j]) (by simp [lv_args, cat_rf, cat_i, cat_j]) ?_
  intro p l e s m args below meth c hr hlk hin cx
  have hk0 := dn_eq hk
  unfold f_X11_line at h
  refine k_aload_n cx 0 dX11_line_0 rfl rfl ?_
  refine k_iload_n cx 1 dX11_line_1 rfl rfl ?_
  obtain ⟨q1, g2, h⟩ := bind_ok h
  refine k_callV cx iv_X11_127 (ci := 11) rfl (by decide) (w_X11_isLine (dn_some hk0).2 g2) hk0 (As := [.int p1]) rfl rfl ⟨Nat.le_of_ble_eq_true rfl, Nat.le_of_ble_eq_true rfl⟩ (by simp [cat_rf, cat_i, cat_j]) dX11_line_2 ?_
  refine k_if_eq cx 18 dX11_line_5 (by decide) (fun c3 => ?_) (fun c3 => ?_)
  · have h := ite_t h c3
    refine k_bipush cx (-2) dX11_line_18 (by decide) ?_
    have h := Option.some.inj h
    exact k_iret cx hr hlk (by rw [← h]) (by rw [← h]) dX11_line_20
  · have h := ite_f h c3
    refine k_iload_n cx 2 dX11_line_8 rfl rfl ?_
    refine k_iconst cx 0 dX11_line_9 (by decide) ?_
    refine k_bipush cx 9 dX11_line_10 (by decide) ?_
    obtain ⟨q4, g5, h⟩ := bind_ok h
    refine k_callS cx iv_X11_62 (w_X11_in g5) (As := [.int p2, .int 0, .int 9]) rfl rfl ⟨Nat.le_of_ble_eq_true rfl, Nat.le_of_ble_eq_true rfl⟩ (by simp [cat_rf, cat_i, cat_j]) dX11_line_12 ?_
    refine k_if_ne cx 21 dX11_line_15 (by decide) (fun c6 => ?_) (fun c6 => ?_)
    · have h := ite_t h c6
      refine k_aload_n cx 0 dX11_line_21 rfl rfl ?_
      obtain ⟨q7, g8, h⟩ := bind_ok h
      refine k_callV cx iv_X11_188 (ci := 11) rfl (by decide) (w_X11_draws (dn_some hk0).2 g8) hk0 (As := []) rfl rfl ⟨Nat.le_of_ble_eq_true rfl, Nat.le_of_ble_eq_true rfl⟩ (by simp [cat_rf, cat_i, cat_j]) dX11_line_22 ?_
      refine k_aload_n cx 0 dX11_line_25 rfl rfl ?_
      refine k_iload_n cx 1 dX11_line_26 rfl rfl ?_
      refine k_iload_n cx 2 dX11_line_27 rfl rfl ?_
      obtain ⟨a9, g10, h⟩ := bind_ok h
      obtain ⟨q11, g12, h⟩ := bind_ok h
      refine k_callV cx iv_X11_191 (ci := 11) rfl (by decide) (w_X11_linePart (dn_some g10).2 g12) g10 (As := [.int p1, .int p2]) rfl rfl ⟨Nat.le_of_ble_eq_true rfl, Nat.le_of_ble_eq_true rfl⟩ (by simp [cat_rf, cat_i, cat_j]) dX11_line_28 ?_
      have h := Option.some.inj h
      exact k_iret cx hr hlk (by rw [← h]) (by rw [← h]) dX11_line_31
    · have h := ite_f h c6
      refine k_bipush cx (-2) dX11_line_18 (by decide) ?_
      have h := Option.some.inj h
      exact k_iret cx hr hlk (by rw [← h]) (by rw [← h]) dX11_line_20
set_option maxRecDepth 100000 in
set_option maxHeartbeats 4000000 in
theorem w_X11_letter {Γ : GE} {σ : St} {t : Nat} {p1 : Int32} {p2 : Int32} {ρ : Int32} (hk : hpK σ t = 11) (h : f_X11_letter σ t p1 p2 = some ρ) : Ct Γ yX11_letter cX11_letter 3 (some .int) 2 43 [va_rf (some t), .int p1, .int p2] σ (some (.int ρ)) σ := by
  refine ct_intro (own := RX11) (L0 := [(0, va_rf (some t)), (1, .int p1), (2, .int p2)]) (by decide +kernel) rfl (by simp [lg_sl, cat_rf, cat_i, cat_j]) (by simp [lv_args, cat_rf, cat_i, cat_j]) ?_
  intro p l e s m args below meth c hr hlk hin cx
  have hk0 := dn_eq hk
  unfold f_X11_letter at h
  refine k_aload_n cx 0 dX11_letter_0 rfl rfl ?_
  refine k_iload_n cx 1 dX11_letter_1 rfl rfl ?_
  obtain ⟨q1, g2, h⟩ := bind_ok h
  refine k_callV cx iv_X11_127 (ci := 11) rfl (by decide) (w_X11_isLine (dn_some hk0).2 g2) hk0 (As := [.int p1]) rfl rfl ⟨Nat.le_of_ble_eq_true rfl, Nat.le_of_ble_eq_true rfl⟩ (by simp [cat_rf, cat_i, cat_j]) dX11_letter_2 ?_
  refine k_if_eq cx 12 dX11_letter_5 (by decide) (fun c3 => ?_) (fun c3 => ?_)
  · have h := ite_t h c3
    refine k_bipush cx (-2) dX11_letter_12 (by decide) ?_
    have h := Option.some.inj h
    exact k_iret cx hr hlk (by rw [← h]) rfl dX11_letter_14
  · have h := ite_f h c3
    refine k_iload_n cx 2 dX11_letter_8 rfl rfl ?_
    refine k_if_ge cx 15 dX11_letter_9 (by decide) (fun c4 => ?_) (fun c4 => ?_)
    · have h := ite_t h c4
      refine k_iload_n cx 2 dX11_letter_15 rfl rfl ?_
      refine k_aload_n cx 0 dX11_letter_16 rfl rfl ?_
      refine k_iload_n cx 1 dX11_letter_17 rfl rfl ?_
      refine k_iconst cx 0 dX11_letter_18 (by decide) ?_
      obtain ⟨q5, g6, h⟩ := bind_ok h
      refine k_callV cx iv_X11_130 (ci := 11) rfl (by decide) (w_X11_of (dn_some hk0).2 g6) hk0 (As := [.int p1, .int 0]) rfl rfl ⟨Nat.le_of_ble_eq_true rfl, Nat.le_of_ble_eq_true rfl⟩ (by simp [cat_rf, cat_i, cat_j]) dX11_letter_19 ?_
      refine k_icmp_ge cx 36 dX11_letter_22 (by decide) (fun c7 => ?_) (fun c7 => ?_)
      · have h := ite_t h c7
        refine k_iconst cx (-1) dX11_letter_36 (by decide) ?_
        have h := Option.some.inj h
        exact k_iret cx hr hlk (by rw [← h]) rfl dX11_letter_37
      · have h := ite_f h c7
        refine k_aload_n cx 0 dX11_letter_25 rfl rfl ?_
        refine k_iload_n cx 1 dX11_letter_26 rfl rfl ?_
        refine k_iconst cx 5 dX11_letter_27 (by decide) ?_
        refine k_iload_n cx 2 dX11_letter_28 rfl rfl ?_
        refine k_iadd cx dX11_letter_29 ?_
        obtain ⟨q8, g9, h⟩ := bind_ok h
        refine k_callV cx iv_X11_130 (ci := 11) rfl (by decide) (w_X11_of (dn_some hk0).2 g9) hk0 (As := [.int p1, .int (5 + p2)]) rfl rfl ⟨Nat.le_of_ble_eq_true rfl, Nat.le_of_ble_eq_true rfl⟩ (by simp [cat_rf, cat_i, cat_j]) dX11_letter_30 ?_
        refine k_goto cx 37 dX11_letter_33 (by decide) ?_
        have h := Option.some.inj h
        exact k_iret cx hr hlk (by rw [← h]) rfl dX11_letter_37
    · have h := ite_f h c4
      refine k_bipush cx (-2) dX11_letter_12 (by decide) ?_
      have h := Option.some.inj h
      exact k_iret cx hr hlk (by rw [← h]) rfl dX11_letter_14
set_option maxRecDepth 100000 in
set_option maxHeartbeats 4000000 in
theorem w_X11_set {Γ : GE} {σ : St} {t : Nat} {p1 : Int32} {p2 : Int32} {ρ : Int32 × St} (hk : hpK σ t = 11) (h : f_X11_set σ t p1 p2 = some ρ) : Ct Γ yX11_set cX11_set 5 (some .int) 1 22 [va_rf (some t), .int p1, .int p2] σ (some (.int ρ.1)) ρ.2 := by
  refine ct_intro (own := RX11) (L0 := [(0, va_rf (some t)), (1, .int p1), (2, .int p2)]) (by decide +kernel) rfl (by simp [lg_sl, cat_rf, cat_i, cat_j]) (by simp [lv_args, cat_rf, cat_i, cat_j]) ?_
  intro p l e s m args below meth c hr hlk hin cx
  have hk0 := dn_eq hk
  unfold f_X11_set at h
  refine k_iload_n cx 1 dX11_set_0 rfl rfl ?_
  obtain ⟨x1, hxx1, h⟩ := bind_ok h
  have Kx1 : Og p l e s m args below meth c Γ 5 1 22 σ (some (.int ρ.1)) ρ.2 31 [(0, va_rf (some t)), (1, .int p1), (2, .int p2)] [.int x1] σ := by
    refine k_istore_n cx (i := 3) [(3, .int x1), (0, va_rf (some t)), (1, .int p1), (2, .int p2)] dX11_set_31 rfl (by decide) (by simp [cat_rf, cat_i, cat_j]) ?_
    refine k_iload_n cx 2 dX11_set_32 rfl rfl ?_
    refine k_iconst cx 0 dX11_set_33 (by decide) ?_
    refine k_iconst cx 4 dX11_set_34 (by decide) ?_
    obtain ⟨q5, g6, h⟩ := bind_ok h
    refine k_callS cx iv_X11_62 (w_X11_in g6) (As := [.int p1, .int 0, .int 4]) rfl rfl ⟨Nat.le_of_ble_eq_true rfl, Nat.le_of_ble_eq_true rfl⟩ (by simp [cat_rf, cat_i, cat_j]) dX11_set_35 ?_
    refine k_if_eq cx 68 dX11_set_38 (by decide) (fun c7 => ?_) (fun c7 => ?_)
    · have h := ite_t h c7
      refine k_bipush cx (-2) dX11_set_68 (by decide) ?_
      have h := Option.some.inj h
      exact k_iret cx hr hlk (by rw [← h]) (by rw [← h]) dX11_set_70
    · have h := ite_f h c7
      refine k_iload_n cx 3 dX11_set_41 rfl rfl ?_
      refine k_iload_n cx 2 dX11_set_42 rfl rfl ?_
      obtain ⟨x8, hxx8, h⟩ := bind_ok h
      have Kx8 : Og p l e s m args below meth c Γ 5 1 22 σ (some (.int ρ.1)) ρ.2 61 [(0, va_rf (some t)), (1, .int p1), (2, .int p2), (3, .int x1)] [.int x8, .int p2] σ := by
        refine k_iload_n cx 3 dX11_set_61 rfl rfl ?_
        obtain ⟨q11, g12, h⟩ := bind_ok h
        refine k_callS cx iv_X11_62 (w_X11_in g12) (As := [.int p2, .int x8, .int x1]) rfl rfl ⟨Nat.le_of_ble_eq_true rfl, Nat.le_of_ble_eq_true rfl⟩ (by simp [cat_rf, cat_i, cat_j]) dX11_set_62 ?_
        refine k_if_ne cx 71 dX11_set_65 (by decide) (fun c13 => ?_) (fun c13 => ?_)
        · have h := ite_t h c13
          refine k_aload_n cx 0 dX11_set_71 rfl rfl ?_
          obtain ⟨q14, g15, h⟩ := bind_ok h
          refine k_callV cx iv_X11_116 (ci := 11) rfl (by decide) (w_X11_keeps (dn_some hk0).2 g15) hk0 (As := []) rfl rfl ⟨Nat.le_of_ble_eq_true rfl, Nat.le_of_ble_eq_true rfl⟩ (by simp [cat_rf, cat_i, cat_j]) dX11_set_72 ?_
          refine k_aload_n cx 0 dX11_set_75 rfl rfl ?_
          obtain ⟨a16, g17, h⟩ := bind_ok h
          refine q_getR cx fl_X11_7 g17 dX11_set_76 ?_
          refine k_sipush cx 2041 dX11_set_79 (by decide) ?_
          refine k_iload_n cx 1 dX11_set_82 rfl rfl ?_
          refine k_iadd cx dX11_set_83 ?_
          obtain ⟨a18, g19, h⟩ := bind_ok h
          obtain ⟨j20, g21, h⟩ := bind_ok h
          refine k_iald cx g19 g21 dX11_set_84 ?_
          refine k_istore cx [(4, .int (hpA q14 a18 j20)), (0, va_rf (some t)), (1, .int p1), (2, .int p2), (3, .int x1)] dX11_set_85 (by decide) (by simp [cat_rf, cat_i, cat_j]) ?_
          refine k_aload_n cx 1 dX11_set_87 rfl rfl ?_
          refine q_getR cx fl_X11_7 g17 dX11_set_88 ?_
          refine k_sipush cx 2041 dX11_set_91 (by decide) ?_
          refine k_iload_n cx 2 dX11_set_94 rfl rfl ?_
          refine k_iadd cx dX11_set_95 ?_
          refine k_iload_n cx 3 dX11_set_96 rfl rfl ?_
          obtain ⟨a22, g23, h⟩ := bind_ok h
          obtain ⟨j24, g25, h⟩ := bind_ok h
          refine k_iast cx g23 g25 dX11_set_97 ?_
          refine k_iload cx 0 dX11_set_98 rfl ?_
          have h := Option.some.inj h
          exact k_iret cx hr hlk (by rw [← h]) (by rw [← h]) dX11_set_100
        · have h := ite_f h c13
          refine k_bipush cx (-2) dX11_set_68 (by decide) ?_
          have h := Option.some.inj h
          exact k_iret cx hr hlk (by rw [← h]) (by rw [← h]) dX11_set_70
      have h := hxx8
      refine k_if_ne cx 51 dX11_set_43 (by decide) (fun c9 => ?_) (fun c9 => ?_)
      · have h := ite_t h c9
        refine k_iload_n cx 2 dX11_set_51 rfl rfl ?_
        refine k_iconst cx 1 dX11_set_52 (by decide) ?_
        refine k_icmp_ne cx 60 dX11_set_53 (by decide) (fun c10 => ?_) (fun c10 => ?_)
        · have h := ite_t h c10
          refine k_iconst cx 0 dX11_set_60 (by decide) ?_
          refine k_sub [1, 2, 3, 0] rfl ?_
          obtain rfl := Option.some.inj h
          exact Kx8
        · have h := ite_f h c10
          refine k_iconst cx 4 dX11_set_56 (by decide) ?_
          refine k_goto cx 61 dX11_set_57 (by decide) ?_
          refine k_sub [1, 2, 3, 0] rfl ?_
          obtain rfl := Option.some.inj h
          exact Kx8
      · have h := ite_f h c9
        refine k_bipush cx 12 dX11_set_46 (by decide) ?_
        refine k_goto cx 61 dX11_set_48 (by decide) ?_
        refine k_sub [1, 2, 3, 0] rfl ?_
        obtain rfl := Option.some.inj h
        exact Kx8
  have h := hxx1
  refine k_if_ne cx 9 dX11_set_1 (by decide) (fun c2 => ?_) (fun c2 => ?_)
  · have h := ite_t h c2
    refine k_iload_n cx 1 dX11_set_9 rfl rfl ?_
    refine k_iconst cx 2 dX11_set_10 (by decide) ?_
    refine k_icmp_ne cx 19 dX11_set_11 (by decide) (fun c3 => ?_) (fun c3 => ?_)
    · have h := ite_t h c3
      refine k_iload_n cx 1 dX11_set_19 rfl rfl ?_
      refine k_iconst cx 3 dX11_set_20 (by decide) ?_
      refine k_icmp_ne cx 29 dX11_set_21 (by decide) (fun c4 => ?_) (fun c4 => ?_)
      · have h := ite_t h c4
        refine k_bipush cx 30 dX11_set_29 (by decide) ?_
        obtain rfl := Option.some.inj h
        exact Kx1
      · have h := ite_f h c4
        refine k_bipush cx 8 dX11_set_24 (by decide) ?_
        refine k_goto cx 31 dX11_set_26 (by decide) ?_
        obtain rfl := Option.some.inj h
        exact Kx1
    · have h := ite_f h c3
      refine k_bipush cx 6 dX11_set_14 (by decide) ?_
      refine k_goto cx 31 dX11_set_16 (by decide) ?_
      obtain rfl := Option.some.inj h
      exact Kx1
  · have h := ite_f h c2
    refine k_bipush cx 60 dX11_set_4 (by decide) ?_
    refine k_goto cx 31 dX11_set_6 (by decide) ?_
    obtain rfl := Option.some.inj h
    exact Kx1
set_option maxRecDepth 100000 in
set_option maxHeartbeats 4000000 in
theorem w_X11_shown {Γ : GE} {σ : St} {t : Nat} {p1 : Int32} {ρ : Int32} (hk : hpK σ t = 11) (h : f_X11_shown σ t p1 = some ρ) : Ct Γ yX11_shown cX11_shown 3 (some .int) 4 87 [va_rf (some t), .int p1] σ (some (.int ρ)) σ := by
  refine ct_intro (own := RX11) (L0 := [(0, va_rf (some t)), (1, .int p1)]) (by decide +kernel) rfl (by simp [lg_sl, cat_rf, cat_i, cat_j]) (by simp [lv_args, cat_rf, cat_i, cat_j]) ?_
  intro p l e s m args below meth c hr hlk hin cx
  have hk0 := dn_eq hk
  unfold f_X11_shown at h
  refine k_aload_n cx 0 dX11_shown_0 rfl rfl ?_
  refine k_aload_n cx 0 dX11_shown_1 rfl rfl ?_
  refine q_getR cx fl_X11_22 hk0 dX11_shown_2 ?_
  refine k_iload_n cx 1 dX11_shown_5 rfl rfl ?_
  obtain ⟨a1, g2, h⟩ := bind_ok h
  obtain ⟨j3, g4, h⟩ := bind_ok h
  refine k_iald cx g2 g4 dX11_shown_6 ?_
  obtain ⟨q5, g6, h⟩ := bind_ok h
  refine k_callV cx iv_X11_185 (ci := 11) rfl (by decide) (w_X11_numberOf (dn_some hk0).2 g6) hk0 (As := [.int (hpA σ a1 j3)]) rfl rfl ⟨Nat.le_of_ble_eq_true rfl, Nat.le_of_ble_eq_true rfl⟩ (by simp [cat_rf, cat_i, cat_j]) dX11_shown_7 ?_
  refine k_istore_n cx (i := 2) [(2, .int q5), (0, va_rf (some t)), (1, .int p1)] dX11_shown_10 rfl (by decide) (by simp [cat_rf, cat_i, cat_j]) ?_
  refine k_aload_n cx 1 dX11_shown_11 rfl rfl ?_
  refine q_getR cx fl_X11_25 hk0 dX11_shown_12 ?_
  refine k_iload_n cx 2 dX11_shown_15 rfl rfl ?_
  obtain ⟨a7, g8, h⟩ := bind_ok h
  obtain ⟨j9, g10, h⟩ := bind_ok h
  refine k_iald cx g8 g10 dX11_shown_16 ?_
  refine k_if_ne cx 43 dX11_shown_17 (by decide) (fun c11 => ?_) (fun c11 => ?_)
  · have h := ite_t h c11
    refine k_iconst cx 0 dX11_shown_43 (by decide) ?_
    have h := Option.some.inj h
    exact k_iret cx hr hlk (by rw [← h]) rfl dX11_shown_44
  · have h := ite_f h c11
    refine k_aload_n cx 1 dX11_shown_20 rfl rfl ?_
    refine k_aload_n cx 1 dX11_shown_21 rfl rfl ?_
    refine q_getR cx fl_X11_22 hk0 dX11_shown_22 ?_
    refine k_iload_n cx 2 dX11_shown_25 rfl rfl ?_
    obtain ⟨j12, g13, h⟩ := bind_ok h
    refine k_iald cx g2 g13 dX11_shown_26 ?_
    obtain ⟨q14, g15, h⟩ := bind_ok h
    refine k_callV cx iv_X11_147 (ci := 11) rfl (by decide) (w_X11_leans (dn_some hk0).2 g15) hk0 (As := [.int (hpA σ a1 j12)]) rfl rfl ⟨Nat.le_of_ble_eq_true rfl, Nat.le_of_ble_eq_true rfl⟩ (by simp [cat_rf, cat_i, cat_j]) dX11_shown_27 ?_
    refine k_if_ne cx 43 dX11_shown_30 (by decide) (fun c16 => ?_) (fun c16 => ?_)
    · have h := ite_t h c16
      refine k_iconst cx 0 dX11_shown_43 (by decide) ?_
      have h := Option.some.inj h
      exact k_iret cx hr hlk (by rw [← h]) rfl dX11_shown_44
    · have h := ite_f h c16
      refine k_iload_n cx 0 dX11_shown_33 rfl rfl ?_
      refine k_iconst cx 5 dX11_shown_34 (by decide) ?_
      obtain ⟨w17, g18, h⟩ := bind_ok h
      refine k_irem cx dX11_shown_35 g18 ?_
      refine k_if_ne cx 43 dX11_shown_36 (by decide) (fun c19 => ?_) (fun c19 => ?_)
      · have h := ite_t h c19
        refine k_iconst cx 0 dX11_shown_43 (by decide) ?_
        have h := Option.some.inj h
        exact k_iret cx hr hlk (by rw [← h]) rfl dX11_shown_44
      · have h := ite_f h c19
        refine k_iload_n cx 0 dX11_shown_39 rfl rfl ?_
        refine k_goto cx 44 dX11_shown_40 (by decide) ?_
        have h := Option.some.inj h
        exact k_iret cx hr hlk (by rw [← h]) rfl dX11_shown_44
set_option maxRecDepth 100000 in
set_option maxHeartbeats 4000000 in
theorem w_X11_rowPart {Γ : GE} {σ : St} {t : Nat} {p1 : Int32} {p2 : Int32} {ρ : Int32} (hk : hpK σ t = 11) (h : f_X11_rowPart σ t p1 p2 = some ρ) : Ct Γ yX11_rowPart cX11_rowPart 3 (some .int) 5 109 [va_rf (some t), .int p1, .int p2] σ (some (.int ρ)) σ := by
  refine ct_intro (own := RX11) (L0 := [(0, va_rf (some t)), (1, .int p1), (2, .int p2)]) (by decide +kernel) rfl (by simp [lg_sl, cat_rf, cat_i, cat_j]) (by simp [lv_args, cat_rf, cat_i, cat_j]) ?_
  intro p l e s m args below meth c hr hlk hin cx
  have hk0 := dn_eq hk
  unfold f_X11_rowPart at h
  refine k_iload_n cx 2 dX11_rowPart_0 rfl rfl ?_
  refine k_switch cx dX11_rowPart_1 (by decide) (fun hs => ?_) (by decide) (fun k off ho hs => ?_)
  · have h0 : ¬ p2 = 0 := fun q => by rw [q] at hs; revert hs; decide
    have h1 : ¬ p2 = 1 := fun q => by rw [q] at hs; revert hs; decide
    have h2 : ¬ p2 = 2 := fun q => by rw [q] at hs; revert hs; decide
    have h3 : ¬ p2 = 3 := fun q => by rw [q] at hs; revert hs; decide
    have h4 : ¬ p2 = 4 := fun q => by rw [q] at hs; revert hs; decide
    have h5 : ¬ p2 = 5 := fun q => by rw [q] at hs; revert hs; decide
    have h6 : ¬ p2 = 6 := fun q => by rw [q] at hs; revert hs; decide
    have h7 : ¬ p2 = 7 := fun q => by rw [q] at hs; revert hs; decide
    have h := ite_f h h0
    have h := ite_f h h1
    have h := ite_f h h2
    have h := ite_f h h3
    have h := ite_f h h4
    have h := ite_f h h5
    have h := ite_f h h6
    have h := ite_f h h7
    refine k_aload_n cx 0 dX11_rowPart_103 rfl rfl ?_
    refine q_getR cx fl_X11_28 hk0 dX11_rowPart_104 ?_
    refine k_iload_n cx 1 dX11_rowPart_107 rfl rfl ?_
    obtain ⟨a31, g32, h⟩ := bind_ok h
    obtain ⟨j33, g34, h⟩ := bind_ok h
    refine k_iald cx g32 g34 dX11_rowPart_108 ?_
    refine k_aload_n cx 0 dX11_rowPart_109 rfl rfl ?_
    refine q_getR cx fl_X11_31 hk0 dX11_rowPart_110 ?_
    refine k_iload_n cx 1 dX11_rowPart_113 rfl rfl ?_
    obtain ⟨a35, g36, h⟩ := bind_ok h
    obtain ⟨j37, g38, h⟩ := bind_ok h
    refine k_iald cx g36 g38 dX11_rowPart_114 ?_
    refine k_iadd cx dX11_rowPart_115 ?_
    have h := Option.some.inj h
    exact k_iret cx hr hlk (by rw [← h]) rfl dX11_rowPart_116
  · match k, ho with
    | 0, ho =>
      cases ho
      have hv : p2 = 0 := Int32.toInt_inj.mp (by rw [hs]; rfl)
      have h := ite_t h hv
      refine ⟨by decide, ?_⟩
      refine k_aload_n cx 0 dX11_rowPart_48 rfl rfl ?_
      refine q_getR cx fl_X11_22 hk0 dX11_rowPart_49 ?_
      refine k_iload_n cx 1 dX11_rowPart_52 rfl rfl ?_
      obtain ⟨a1, g2, h⟩ := bind_ok h
      obtain ⟨j3, g4, h⟩ := bind_ok h
      refine k_iald cx g2 g4 dX11_rowPart_53 ?_
      have h := Option.some.inj h
      exact k_iret cx hr hlk (by rw [← h]) rfl dX11_rowPart_54
    | 1, ho =>
      cases ho
      have hv : p2 = 1 := Int32.toInt_inj.mp (by rw [hs]; rfl)
      have h := ite_f h (show ¬ p2 = 0 from fun q => by rw [hv] at q; revert q; decide)
      have h := ite_t h hv
      refine ⟨by decide, ?_⟩
      refine k_aload_n cx 0 dX11_rowPart_55 rfl rfl ?_
      refine q_getR cx fl_X11_25 hk0 dX11_rowPart_56 ?_
      refine k_iload_n cx 1 dX11_rowPart_59 rfl rfl ?_
      obtain ⟨a5, g6, h⟩ := bind_ok h
      obtain ⟨j7, g8, h⟩ := bind_ok h
      refine k_iald cx g6 g8 dX11_rowPart_60 ?_
      have h := Option.some.inj h
      exact k_iret cx hr hlk (by rw [← h]) rfl dX11_rowPart_61
    | 2, ho =>
      cases ho
      have hv : p2 = 2 := Int32.toInt_inj.mp (by rw [hs]; rfl)
      have h := ite_f h (show ¬ p2 = 0 from fun q => by rw [hv] at q; revert q; decide)
      have h := ite_f h (show ¬ p2 = 1 from fun q => by rw [hv] at q; revert q; decide)
      have h := ite_t h hv
      refine ⟨by decide, ?_⟩
      refine k_aload_n cx 0 dX11_rowPart_62 rfl rfl ?_
      refine q_getR cx fl_X11_40 hk0 dX11_rowPart_63 ?_
      refine k_iload_n cx 1 dX11_rowPart_66 rfl rfl ?_
      obtain ⟨a9, g10, h⟩ := bind_ok h
      obtain ⟨j11, g12, h⟩ := bind_ok h
      refine k_iald cx g10 g12 dX11_rowPart_67 ?_
      have h := Option.some.inj h
      exact k_iret cx hr hlk (by rw [← h]) rfl dX11_rowPart_68
    | 3, ho =>
      cases ho
      have hv : p2 = 3 := Int32.toInt_inj.mp (by rw [hs]; rfl)
      have h := ite_f h (show ¬ p2 = 0 from fun q => by rw [hv] at q; revert q; decide)
      have h := ite_f h (show ¬ p2 = 1 from fun q => by rw [hv] at q; revert q; decide)
      have h := ite_f h (show ¬ p2 = 2 from fun q => by rw [hv] at q; revert q; decide)
      have h := ite_t h hv
      refine ⟨by decide, ?_⟩
      refine k_aload_n cx 0 dX11_rowPart_69 rfl rfl ?_
      refine q_getR cx fl_X11_43 hk0 dX11_rowPart_70 ?_
      refine k_iload_n cx 1 dX11_rowPart_73 rfl rfl ?_
      obtain ⟨a13, g14, h⟩ := bind_ok h
      obtain ⟨j15, g16, h⟩ := bind_ok h
      refine k_iald cx g14 g16 dX11_rowPart_74 ?_
      have h := Option.some.inj h
      exact k_iret cx hr hlk (by rw [← h]) rfl dX11_rowPart_75
    | 4, ho =>
      cases ho
      have hv : p2 = 4 := Int32.toInt_inj.mp (by rw [hs]; rfl)
      have h := ite_f h (show ¬ p2 = 0 from fun q => by rw [hv] at q; revert q; decide)
      have h := ite_f h (show ¬ p2 = 1 from fun q => by rw [hv] at q; revert q; decide)
      have h := ite_f h (show ¬ p2 = 2 from fun q => by rw [hv] at q; revert q; decide)
      have h := ite_f h (show ¬ p2 = 3 from fun q => by rw [hv] at q; revert q; decide)
      have h := ite_t h hv
      refine ⟨by decide, ?_⟩
      refine k_aload_n cx 0 dX11_rowPart_76 rfl rfl ?_
      refine q_getR cx fl_X11_28 hk0 dX11_rowPart_77 ?_
      refine k_iload_n cx 1 dX11_rowPart_80 rfl rfl ?_
      obtain ⟨a17, g18, h⟩ := bind_ok h
      obtain ⟨j19, g20, h⟩ := bind_ok h
      refine k_iald cx g18 g20 dX11_rowPart_81 ?_
      have h := Option.some.inj h
      exact k_iret cx hr hlk (by rw [← h]) rfl dX11_rowPart_82
    | 5, ho =>
      cases ho
      have hv : p2 = 5 := Int32.toInt_inj.mp (by rw [hs]; rfl)
      have h := ite_f h (show ¬ p2 = 0 from fun q => by rw [hv] at q; revert q; decide)
      have h := ite_f h (show ¬ p2 = 1 from fun q => by rw [hv] at q; revert q; decide)
      have h := ite_f h (show ¬ p2 = 2 from fun q => by rw [hv] at q; revert q; decide)
      have h := ite_f h (show ¬ p2 = 3 from fun q => by rw [hv] at q; revert q; decide)
      have h := ite_f h (show ¬ p2 = 4 from fun q => by rw [hv] at q; revert q; decide)
      have h := ite_t h hv
      refine ⟨by decide, ?_⟩
      refine k_aload_n cx 0 dX11_rowPart_83 rfl rfl ?_
      refine q_getR cx fl_X11_31 hk0 dX11_rowPart_84 ?_
      refine k_iload_n cx 1 dX11_rowPart_87 rfl rfl ?_
      obtain ⟨a21, g22, h⟩ := bind_ok h
      obtain ⟨j23, g24, h⟩ := bind_ok h
      refine k_iald cx g22 g24 dX11_rowPart_88 ?_
      have h := Option.some.inj h
      exact k_iret cx hr hlk (by rw [← h]) rfl dX11_rowPart_89
    | 6, ho =>
      cases ho
      have hv : p2 = 6 := Int32.toInt_inj.mp (by rw [hs]; rfl)
      have h := ite_f h (show ¬ p2 = 0 from fun q => by rw [hv] at q; revert q; decide)
      have h := ite_f h (show ¬ p2 = 1 from fun q => by rw [hv] at q; revert q; decide)
      have h := ite_f h (show ¬ p2 = 2 from fun q => by rw [hv] at q; revert q; decide)
      have h := ite_f h (show ¬ p2 = 3 from fun q => by rw [hv] at q; revert q; decide)
      have h := ite_f h (show ¬ p2 = 4 from fun q => by rw [hv] at q; revert q; decide)
      have h := ite_f h (show ¬ p2 = 5 from fun q => by rw [hv] at q; revert q; decide)
      have h := ite_t h hv
      refine ⟨by decide, ?_⟩
      refine k_aload_n cx 0 dX11_rowPart_90 rfl rfl ?_
      refine k_iload_n cx 1 dX11_rowPart_91 rfl rfl ?_
      obtain ⟨q25, g26, h⟩ := bind_ok h
      refine k_callV cx iv_X11_194 (ci := 11) rfl (by decide) (w_X11_shown (dn_some hk0).2 g26) hk0 (As := [.int p1]) rfl rfl ⟨Nat.le_of_ble_eq_true rfl, Nat.le_of_ble_eq_true rfl⟩ (by simp [cat_rf, cat_i, cat_j]) dX11_rowPart_92 ?_
      have h := Option.some.inj h
      exact k_iret cx hr hlk (by rw [← h]) rfl dX11_rowPart_95
    | 7, ho =>
      cases ho
      have hv : p2 = 7 := Int32.toInt_inj.mp (by rw [hs]; rfl)
      have h := ite_f h (show ¬ p2 = 0 from fun q => by rw [hv] at q; revert q; decide)
      have h := ite_f h (show ¬ p2 = 1 from fun q => by rw [hv] at q; revert q; decide)
      have h := ite_f h (show ¬ p2 = 2 from fun q => by rw [hv] at q; revert q; decide)
      have h := ite_f h (show ¬ p2 = 3 from fun q => by rw [hv] at q; revert q; decide)
      have h := ite_f h (show ¬ p2 = 4 from fun q => by rw [hv] at q; revert q; decide)
      have h := ite_f h (show ¬ p2 = 5 from fun q => by rw [hv] at q; revert q; decide)
      have h := ite_f h (show ¬ p2 = 6 from fun q => by rw [hv] at q; revert q; decide)
      have h := ite_t h hv
      refine ⟨by decide, ?_⟩
      refine k_aload_n cx 0 dX11_rowPart_96 rfl rfl ?_
      refine q_getR cx fl_X11_34 hk0 dX11_rowPart_97 ?_
      refine k_iload_n cx 1 dX11_rowPart_100 rfl rfl ?_
      obtain ⟨a27, g28, h⟩ := bind_ok h
      obtain ⟨j29, g30, h⟩ := bind_ok h
      refine k_iald cx g28 g30 dX11_rowPart_101 ?_
      have h := Option.some.inj h
      exact k_iret cx hr hlk (by rw [← h]) rfl dX11_rowPart_102
    | k + 8, ho => exact absurd ho (by simp)
set_option maxRecDepth 100000 in
set_option maxHeartbeats 4000000 in
theorem w_X11_row {Γ : GE} {σ : St} {t : Nat} {p1 : Int32} {p2 : Int32} {ρ : Int32 × St} (hk : hpK σ t = 11) (h : f_X11_row σ t p1 p2 = some ρ) : Ct Γ yX11_row cX11_row 3 (some .int) 6 131 [va_rf (some t), .int p1, .int p2] σ (some (.int ρ.1)) ρ.2 := by
  refine ct_intro (own := RX11) (L0 := [(0, va_rf (some t)), (1, .int p1), (2, .int p2)]) (by decide +kernel) rfl (by simp [lg_sl, cat_rf, cat_i, cat_j]) (by simp [lv_args, cat_rf, cat_i, cat_j]) ?_
  intro p l e s m args below meth c hr hlk hin cx
  have hk0 := dn_eq hk
  unfold f_X11_row at h
  refine k_iload_n cx 1 dX11_row_0 rfl rfl ?_
  refine k_if_lt cx 14 dX11_row_1 (by decide) (fun c1 => ?_) (fun c1 => ?_)
  · have h := ite_t h c1
    refine k_bipush cx (-2) dX11_row_14 (by decide) ?_
    have h := Option.some.inj h
    exact k_iret cx hr hlk (by rw [← h]) (by rw [← h]) dX11_row_16
  · have h := ite_f h c1
    refine k_iload_n cx 2 dX11_row_4 rfl rfl ?_
    refine k_iconst cx 0 dX11_row_5 (by decide) ?_
    refine k_bipush cx 8 dX11_row_6 (by decide) ?_
    obtain ⟨q2, g3, h⟩ := bind_ok h
    refine k_callS cx iv_X11_62 (w_X11_in g3) (As := [.int p2, .int 0, .int 8]) rfl rfl ⟨Nat.le_of_ble_eq_true rfl, Nat.le_of_ble_eq_true rfl⟩ (by simp [cat_rf, cat_i, cat_j]) dX11_row_8 ?_
    refine k_if_ne cx 17 dX11_row_11 (by decide) (fun c4 => ?_) (fun c4 => ?_)
    · have h := ite_t h c4
      refine k_aload_n cx 0 dX11_row_17 rfl rfl ?_
      obtain ⟨q5, g6, h⟩ := bind_ok h
      refine k_callV cx iv_X11_188 (ci := 11) rfl (by decide) (w_X11_draws (dn_some hk0).2 g6) hk0 (As := []) rfl rfl ⟨Nat.le_of_ble_eq_true rfl, Nat.le_of_ble_eq_true rfl⟩ (by simp [cat_rf, cat_i, cat_j]) dX11_row_18 ?_
      refine k_iload_n cx 1 dX11_row_21 rfl rfl ?_
      refine k_aload_n cx 0 dX11_row_22 rfl rfl ?_
      obtain ⟨a7, g8, h⟩ := bind_ok h
      refine q_getI cx fl_X11_150 g8 dX11_row_23 ?_
      refine k_icmp_ge cx 38 dX11_row_26 (by decide) (fun c9 => ?_) (fun c9 => ?_)
      · have h := ite_t h c9
        refine k_iconst cx (-1) dX11_row_38 (by decide) ?_
        have h := Option.some.inj h
        exact k_iret cx hr hlk (by rw [← h]) (by rw [← h]) dX11_row_39
      · have h := ite_f h c9
        refine k_aload_n cx 0 dX11_row_29 rfl rfl ?_
        refine k_iload_n cx 1 dX11_row_30 rfl rfl ?_
        refine k_iload_n cx 2 dX11_row_31 rfl rfl ?_
        obtain ⟨q10, g11, h⟩ := bind_ok h
        refine k_callV cx iv_X11_197 (ci := 11) rfl (by decide) (w_X11_rowPart (dn_some g8).2 g11) g8 (As := [.int p1, .int p2]) rfl rfl ⟨Nat.le_of_ble_eq_true rfl, Nat.le_of_ble_eq_true rfl⟩ (by simp [cat_rf, cat_i, cat_j]) dX11_row_32 ?_
        refine k_goto cx 39 dX11_row_35 (by decide) ?_
        have h := Option.some.inj h
        exact k_iret cx hr hlk (by rw [← h]) (by rw [← h]) dX11_row_39
    · have h := ite_f h c4
      refine k_bipush cx (-2) dX11_row_14 (by decide) ?_
      have h := Option.some.inj h
      exact k_iret cx hr hlk (by rw [← h]) (by rw [← h]) dX11_row_16
set_option maxRecDepth 100000 in
set_option maxHeartbeats 4000000 in
theorem w_X11_byteAt {Γ : GE} {σ : St} {t : Nat} {p1 : Int32} {p2 : Int32} {ρ : Int32} (hk : hpK σ t = 11) (h : f_X11_byteAt σ t p1 p2 = some ρ) : Ct Γ yX11_byteAt cX11_byteAt 4 (some .int) 1 22 [va_rf (some t), .int p1, .int p2] σ (some (.int ρ)) σ := by
  refine ct_intro (own := RX11) (L0 := [(0, va_rf (some t)), (1, .int p1), (2, .int p2)]) (by decide +kernel) rfl (by simp [lg_sl, cat_rf, cat_i, cat_j]) (by simp [lv_args, cat_rf, cat_i, cat_j]) ?_
  intro p l e s m args below meth c hr hlk hin cx
  have hk0 := dn_eq hk
  unfold f_X11_byteAt at h
  refine k_iload_n cx 2 dX11_byteAt_0 rfl rfl ?_
  refine k_aload_n cx 0 dX11_byteAt_1 rfl rfl ?_
  refine q_getR cx fl_X11_28 hk0 dX11_byteAt_2 ?_
  refine k_iload_n cx 1 dX11_byteAt_5 rfl rfl ?_
  obtain ⟨a1, g2, h⟩ := bind_ok h
  obtain ⟨j3, g4, h⟩ := bind_ok h
  refine k_iald cx g2 g4 dX11_byteAt_6 ?_
  refine k_isub cx dX11_byteAt_7 ?_
  refine k_istore_n cx (i := 3) [(3, .int (p2 - (hpA σ a1 j3))), (0, va_rf (some t)), (1, .int p1), (2, .int p2)] dX11_byteAt_8 rfl (by decide) (by simp [cat_rf, cat_i, cat_j]) ?_
  refine k_iload_n cx 0 dX11_byteAt_9 rfl rfl ?_
  refine k_iconst cx 0 dX11_byteAt_10 (by decide) ?_
  refine k_aload_n cx 1 dX11_byteAt_11 rfl rfl ?_
  refine q_getR cx fl_X11_31 hk0 dX11_byteAt_12 ?_
  refine k_iload_n cx 2 dX11_byteAt_15 rfl rfl ?_
  obtain ⟨a5, g6, h⟩ := bind_ok h
  obtain ⟨j7, g8, h⟩ := bind_ok h
  refine k_iald cx g6 g8 dX11_byteAt_16 ?_
  refine k_iconst cx 1 dX11_byteAt_17 (by decide) ?_
  refine k_isub cx dX11_byteAt_18 ?_
  obtain ⟨q9, g10, h⟩ := bind_ok h
  refine k_callS cx iv_X11_62 (w_X11_in g10) (As := [.int (p2 - (hpA σ a1 j3)), .int 0, .int ((hpA σ a5 j7) - 1)]) rfl rfl ⟨Nat.le_of_ble_eq_true rfl, Nat.le_of_ble_eq_true rfl⟩ (by simp [cat_rf, cat_i, cat_j]) dX11_byteAt_19 ?_
  refine k_if_eq cx 48 dX11_byteAt_22 (by decide) (fun c11 => ?_) (fun c11 => ?_)
  · have h := ite_t h c11
    refine k_bipush cx 32 dX11_byteAt_48 (by decide) ?_
    have h := Option.some.inj h
    exact k_iret cx hr hlk (by rw [← h]) rfl dX11_byteAt_50
  · have h := ite_f h c11
    refine k_aload_n cx 1 dX11_byteAt_25 rfl rfl ?_
    refine k_aload_n cx 1 dX11_byteAt_26 rfl rfl ?_
    refine q_getR cx fl_X11_22 hk0 dX11_byteAt_27 ?_
    refine k_iload_n cx 2 dX11_byteAt_30 rfl rfl ?_
    obtain ⟨a12, g13, h⟩ := bind_ok h
    obtain ⟨j14, g15, h⟩ := bind_ok h
    refine k_iald cx g13 g15 dX11_byteAt_31 ?_
    refine k_iconst cx 5 dX11_byteAt_32 (by decide) ?_
    refine k_aload_n cx 1 dX11_byteAt_33 rfl rfl ?_
    refine q_getR cx fl_X11_37 hk0 dX11_byteAt_34 ?_
    refine k_iload_n cx 2 dX11_byteAt_37 rfl rfl ?_
    obtain ⟨a16, g17, h⟩ := bind_ok h
    obtain ⟨j18, g19, h⟩ := bind_ok h
    refine k_iald cx g17 g19 dX11_byteAt_38 ?_
    refine k_iadd cx dX11_byteAt_39 ?_
    refine k_iload_n cx 0 dX11_byteAt_40 rfl rfl ?_
    refine k_iadd cx dX11_byteAt_41 ?_
    obtain ⟨q20, g21, h⟩ := bind_ok h
    refine k_callV cx iv_X11_130 (ci := 11) rfl (by decide) (w_X11_of (dn_some hk0).2 g21) hk0 (As := [.int (hpA σ a12 j14), .int ((5 + (hpA σ a16 j18)) + (p2 - (hpA σ a1 j3)))]) rfl rfl ⟨Nat.le_of_ble_eq_true rfl, Nat.le_of_ble_eq_true rfl⟩ (by simp [cat_rf, cat_i, cat_j]) dX11_byteAt_42 ?_
    refine k_goto cx 50 dX11_byteAt_45 (by decide) ?_
    have h := Option.some.inj h
    exact k_iret cx hr hlk (by rw [← h]) rfl dX11_byteAt_50
set_option maxRecDepth 100000 in
set_option maxHeartbeats 4000000 in
theorem w_X11_at {Γ : GE} {σ : St} {t : Nat} {p1 : Int32} {p2 : Int32} {p3 : Int32} {ρ : Int32 × St} (hk : hpK σ t = 11) (h : f_X11_at σ t p1 p2 p3 = some ρ) : Ct Γ yX11_at cX11_at 5 (some .int) 5 114 [va_rf (some t), .int p1, .int p2, .int p3] σ (some (.int ρ.1)) ρ.2 := by
  refine ct_intro (own := RX11) (L0 := [(0, va_rf (some t)), (1, .int p1), (2, .int p2), (3, .int p3)]) (by decide +kernel) rfl (by simp [lg_sl, cat_rf, cat_i, cat_j]) (by simp [lv_args, cat_rf, cat_i, cat_j]) ?_
  intro p l e s m args below meth c hr hlk hin cx
  have hk0 := dn_eq hk
  unfold f_X11_at at h
  refine k_aload_n cx 0 dX11_at_0 rfl rfl ?_
  obtain ⟨q1, g2, h⟩ := bind_ok h
  refine k_callV cx iv_X11_188 (ci := 11) rfl (by decide) (w_X11_draws (dn_some hk0).2 g2) hk0 (As := []) rfl rfl ⟨Nat.le_of_ble_eq_true rfl, Nat.le_of_ble_eq_true rfl⟩ (by simp [cat_rf, cat_i, cat_j]) dX11_at_1 ?_
  refine k_iload_n cx 1 dX11_at_4 rfl rfl ?_
  refine k_iconst cx 0 dX11_at_5 (by decide) ?_
  refine k_aload_n cx 0 dX11_at_6 rfl rfl ?_
  obtain ⟨a3, g4, h⟩ := bind_ok h
  obtain ⟨q5, g6, h⟩ := bind_ok h
  refine k_callV cx iv_X11_200 (ci := 11) rfl (by decide) (w_X11_pages (dn_some g4).2 g6) g4 (As := []) rfl rfl ⟨Nat.le_of_ble_eq_true rfl, Nat.le_of_ble_eq_true rfl⟩ (by simp [cat_rf, cat_i, cat_j]) dX11_at_7 ?_
  refine k_iconst cx 1 dX11_at_10 (by decide) ?_
  refine k_isub cx dX11_at_11 ?_
  obtain ⟨q7, g8, h⟩ := bind_ok h
  refine k_callS cx iv_X11_62 (w_X11_in g8) (As := [.int p1, .int 0, .int (q5 - 1)]) rfl rfl ⟨Nat.le_of_ble_eq_true rfl, Nat.le_of_ble_eq_true rfl⟩ (by simp [cat_rf, cat_i, cat_j]) dX11_at_12 ?_
  refine k_if_eq cx 54 dX11_at_15 (by decide) (fun c9 => ?_) (fun c9 => ?_)
  · have h := ite_t h c9
    refine k_bipush cx (-2) dX11_at_54 (by decide) ?_
    have h := Option.some.inj h
    exact k_iret cx hr hlk (by rw [← h]) (by rw [← h]) dX11_at_56
  · have h := ite_f h c9
    refine k_iload_n cx 2 dX11_at_18 rfl rfl ?_
    refine k_iconst cx 0 dX11_at_19 (by decide) ?_
    refine k_aload_n cx 0 dX11_at_20 rfl rfl ?_
    refine q_getR cx fl_X11_7 g4 dX11_at_21 ?_
    refine k_sipush cx 2042 dX11_at_24 (by decide) ?_
    obtain ⟨a10, g11, h⟩ := bind_ok h
    obtain ⟨j12, g13, h⟩ := bind_ok h
    refine k_iald cx g11 g13 dX11_at_27 ?_
    refine k_iconst cx 1 dX11_at_28 (by decide) ?_
    refine k_isub cx dX11_at_29 ?_
    obtain ⟨q14, g15, h⟩ := bind_ok h
    refine k_callS cx iv_X11_62 (w_X11_in g15) (As := [.int p2, .int 0, .int ((hpA q1 a10 j12) - 1)]) rfl rfl ⟨Nat.le_of_ble_eq_true rfl, Nat.le_of_ble_eq_true rfl⟩ (by simp [cat_rf, cat_i, cat_j]) dX11_at_30 ?_
    refine k_if_eq cx 54 dX11_at_33 (by decide) (fun c16 => ?_) (fun c16 => ?_)
    · have h := ite_t h c16
      refine k_bipush cx (-2) dX11_at_54 (by decide) ?_
      have h := Option.some.inj h
      exact k_iret cx hr hlk (by rw [← h]) (by rw [← h]) dX11_at_56
    · have h := ite_f h c16
      refine k_iload_n cx 3 dX11_at_36 rfl rfl ?_
      refine k_iconst cx 0 dX11_at_37 (by decide) ?_
      refine k_aload_n cx 0 dX11_at_38 rfl rfl ?_
      refine q_getR cx fl_X11_7 g4 dX11_at_39 ?_
      refine k_sipush cx 2041 dX11_at_42 (by decide) ?_
      obtain ⟨j17, g18, h⟩ := bind_ok h
      refine k_iald cx g11 g18 dX11_at_45 ?_
      refine k_iconst cx 1 dX11_at_46 (by decide) ?_
      refine k_isub cx dX11_at_47 ?_
      obtain ⟨q19, g20, h⟩ := bind_ok h
      refine k_callS cx iv_X11_62 (w_X11_in g20) (As := [.int p3, .int 0, .int ((hpA q1 a10 j17) - 1)]) rfl rfl ⟨Nat.le_of_ble_eq_true rfl, Nat.le_of_ble_eq_true rfl⟩ (by simp [cat_rf, cat_i, cat_j]) dX11_at_48 ?_
      refine k_if_ne cx 57 dX11_at_51 (by decide) (fun c21 => ?_) (fun c21 => ?_)
      · have h := ite_t h c21
        refine k_iconst cx 0 dX11_at_57 (by decide) ?_
        refine k_istore cx [(4, .int 0), (0, va_rf (some t)), (1, .int p1), (2, .int p2), (3, .int p3)] dX11_at_58 (by decide) (by simp [cat_rf, cat_i, cat_j]) ?_
        obtain ⟨x23, hxx23, Hx23⟩ := sb_ok h
        have Kx23 : ∀ wx23, .inr wx23 = x23 → Og p l e s m args below meth c Γ 5 5 114 σ (some (.int ρ.1)) ρ.2 105 [] [] q1 := by
          intro wx23 hw
          have h := sb_inr hw Hx23
          refine k_bipush cx 32 dX11_at_105 (by decide) ?_
          have h := Option.some.inj h
          exact k_iret cx hr hlk (by rw [← h]) (by rw [← h]) dX11_at_107
        have KLx23 : ∀ (n : Nat) (v4 : Int32), LX11_at_60 n q1 t p1 p2 p3 v4 = some x23 → Og p l e s m args below meth c Γ 5 5 114 σ (some (.int ρ.1)) ρ.2 60 [(0, va_rf (some t)), (1, .int p1), (2, .int p2), (3, .int p3), (4, .int v4)] [] q1 := by
          intro n
          induction n with
          | zero => intro _ h; cases (show (none : Option _) = some x23 from h)
          | succ n ihx23 =>
            intro v4 h
            rw [LX11_at_60] at h
            refine k_iload cx 4 dX11_at_60 rfl ?_
            refine k_aload_n cx 0 dX11_at_62 rfl rfl ?_
            obtain ⟨a24, g25, h⟩ := bind_ok h
            refine q_getI cx fl_X11_150 g25 dX11_at_63 ?_
            refine k_icmp_ge cx 105 dX11_at_66 (by decide) (fun c26 => ?_) (fun c26 => ?_)
            · have h := ite_t h c26
              refine k_sub [] rfl ?_
              exact Kx23 _ (Option.some.inj h)
            · have h := ite_f h c26
              refine k_aload_n cx 0 dX11_at_69 rfl rfl ?_
              refine q_getR cx fl_X11_40 g25 dX11_at_70 ?_
              refine k_iload cx 4 dX11_at_73 rfl ?_
              obtain ⟨a27, g28, h⟩ := bind_ok h
              obtain ⟨j29, g30, h⟩ := bind_ok h
              refine k_iald cx g28 g30 dX11_at_75 ?_
              refine k_iload_n cx 1 dX11_at_76 rfl rfl ?_
              obtain ⟨x31, hxx31, Hx31⟩ := sb_ok h
              have Kx31 : ∀ wx31 : Unit, .inr wx31 = x31 → Og p l e s m args below meth c Γ 5 5 114 σ (some (.int ρ.1)) ρ.2 99 [(0, va_rf (some t)), (1, .int p1), (2, .int p2), (3, .int p3), (4, .int v4)] [] q1 := by
                intro wx31 hw
                have h := sb_inr hw Hx31
                refine k_iinc cx 4 [(4, .int (v4 + 1)), (0, va_rf (some t)), (1, .int p1), (2, .int p2), (3, .int p3)] (v4 + 1) dX11_at_99 rfl rfl (by decide) (by simp [cat_rf, cat_i, cat_j]) ?_
                refine k_goto cx 60 dX11_at_102 (by decide) ?_
                refine k_sub [1, 2, 3, 4, 0] rfl ?_
                exact ihx23 _ h
              have h := hxx31
              refine k_icmp_ne cx 99 dX11_at_77 (by decide) (fun c32 => ?_) (fun c32 => ?_)
              · have h := ite_t h c32
                exact Kx31 _ (Option.some.inj h)
              · have h := ite_f h c32
                refine k_aload_n cx 0 dX11_at_80 rfl rfl ?_
                refine q_getR cx fl_X11_43 g25 dX11_at_81 ?_
                refine k_iload cx 4 dX11_at_84 rfl ?_
                obtain ⟨a33, g34, h⟩ := bind_ok h
                obtain ⟨j35, g36, h⟩ := bind_ok h
                refine k_iald cx g34 g36 dX11_at_86 ?_
                refine k_iload_n cx 2 dX11_at_87 rfl rfl ?_
                refine k_icmp_ne cx 99 dX11_at_88 (by decide) (fun c37 => ?_) (fun c37 => ?_)
                · have h := ite_t h c37
                  exact Kx31 _ (Option.some.inj h)
                · have h := ite_f h c37
                  refine k_aload_n cx 0 dX11_at_91 rfl rfl ?_
                  refine k_iload cx 4 dX11_at_92 rfl ?_
                  refine k_iload_n cx 3 dX11_at_94 rfl rfl ?_
                  obtain ⟨q38, g39, h⟩ := bind_ok h
                  refine k_callV cx iv_X11_203 (ci := 11) rfl (by decide) (w_X11_byteAt (dn_some g25).2 g39) g25 (As := [.int v4, .int p3]) rfl rfl ⟨Nat.le_of_ble_eq_true rfl, Nat.le_of_ble_eq_true rfl⟩ (by simp [cat_rf, cat_i, cat_j]) dX11_at_95 ?_
                  have h := Option.some.inj h
                  have h := sb_ret h Hx31
                  have h := sb_ret h Hx23
                  exact k_iret cx hr hlk (by rw [← h]) (by rw [← h]) dX11_at_98
        refine k_sub [1, 2, 3, 4, 0] rfl ?_
        exact KLx23 FU _ hxx23
      · have h := ite_f h c21
        refine k_bipush cx (-2) dX11_at_54 (by decide) ?_
        have h := Option.some.inj h
        exact k_iret cx hr hlk (by rw [← h]) (by rw [← h]) dX11_at_56
set_option maxRecDepth 100000 in
set_option maxHeartbeats 4000000 in
theorem w_X11_firstOn {Γ : GE} {σ : St} {t : Nat} {p1 : Int32} {ρ : Int32} (hk : hpK σ t = 11) (h : f_X11_firstOn σ t p1 = some ρ) : Ct Γ yX11_firstOn cX11_firstOn 3 (some .int) 0 0 [va_rf (some t), .int p1] σ (some (.int ρ)) σ := by
  refine ct_intro (own := RX11) (L0 := [(0, va_rf (some t)), (1, .int p1)]) (by decide +kernel) rfl (by simp [lg_sl, cat_rf, cat_i, cat_j]) (by simp [lv_args, cat_rf, cat_i, cat_j]) ?_
  intro p l e s m args below meth c hr hlk hin cx
  have hk0 := dn_eq hk
  unfold f_X11_firstOn at h
  refine k_iconst cx 0 dX11_firstOn_0 (by decide) ?_
  refine k_istore_n cx (i := 2) [(2, .int 0), (0, va_rf (some t)), (1, .int p1)] dX11_firstOn_1 rfl (by decide) (by simp [cat_rf, cat_i, cat_j]) ?_
  obtain ⟨x2, hxx2, h⟩ := bind_ok h
  have Kx2 : Og p l e s m args below meth c Γ 3 0 0 σ (some (.int ρ)) σ 18 [(2, .int x2)] [] σ := by
    refine k_iload_n cx 0 dX11_firstOn_18 rfl rfl ?_
    have h := Option.some.inj h
    exact k_iret cx hr hlk (by rw [← h]) rfl dX11_firstOn_19
  have KLx2 : ∀ (n : Nat) (v2 : Int32), LX11_firstOn_2 n σ t p1 v2 = some x2 → Og p l e s m args below meth c Γ 3 0 0 σ (some (.int ρ)) σ 2 [(0, va_rf (some t)), (1, .int p1), (2, .int v2)] [] σ := by
    intro n
    induction n with
    | zero => intro _ h; cases (show (none : Option _) = some x2 from h)
    | succ n ihx2 =>
      intro v2 h
      rw [LX11_firstOn_2] at h
      refine k_aload_n cx 0 dX11_firstOn_2 rfl rfl ?_
      refine q_getR cx fl_X11_40 hk0 dX11_firstOn_3 ?_
      refine k_iload_n cx 2 dX11_firstOn_6 rfl rfl ?_
      obtain ⟨a3, g4, h⟩ := bind_ok h
      obtain ⟨j5, g6, h⟩ := bind_ok h
      refine k_iald cx g4 g6 dX11_firstOn_7 ?_
      refine k_iload_n cx 1 dX11_firstOn_8 rfl rfl ?_
      refine k_icmp_eq cx 18 dX11_firstOn_9 (by decide) (fun c7 => ?_) (fun c7 => ?_)
      · have h := ite_t h c7
        refine k_sub [2] rfl ?_
        obtain rfl := Option.some.inj h
        exact Kx2
      · have h := ite_f h c7
        refine k_iinc cx 2 [(2, .int (v2 + 1)), (0, va_rf (some t)), (1, .int p1)] (v2 + 1) dX11_firstOn_12 rfl rfl (by decide) (by simp [cat_rf, cat_i, cat_j]) ?_
        refine k_goto cx 2 dX11_firstOn_15 (by decide) ?_
        refine k_sub [1, 2, 0] rfl ?_
        exact ihx2 _ h
  refine k_sub [1, 2, 0] rfl ?_
  exact KLx2 FU _ hxx2
set_option maxRecDepth 100000 in
set_option maxHeartbeats 4000000 in
theorem w_X11_isMarked {Γ : GE} {σ : St} {t : Nat} {p1 : Int32} {ρ : Int32} (hk : hpK σ t = 11) (h : f_X11_isMarked σ t p1 = some ρ) : Ct Γ yX11_isMarked cX11_isMarked 3 (some .boolean) 2 43 [va_rf (some t), .int p1] σ (some (.int ρ)) σ := by
  refine ct_intro (own := RX11) (L0 := [(0, va_rf (some t)), (1, .int p1)]) (by decide +kernel) rfl (by simp [lg_sl, cat_rf, cat_i, cat_j]) (by simp [lv_args, cat_rf, cat_i, cat_j]) ?_
  intro p l e s m args below meth c hr hlk hin cx
  have hk0 := dn_eq hk
  unfold f_X11_isMarked at h
  refine k_iload_n cx 1 dX11_isMarked_0 rfl rfl ?_
  refine k_iconst cx 1 dX11_isMarked_1 (by decide) ?_
  refine k_iadd cx dX11_isMarked_2 ?_
  refine k_aload_n cx 0 dX11_isMarked_3 rfl rfl ?_
  obtain ⟨q1, g2, h⟩ := bind_ok h
  refine k_callV cx iv_X11_200 (ci := 11) rfl (by decide) (w_X11_pages (dn_some hk0).2 g2) hk0 (As := []) rfl rfl ⟨Nat.le_of_ble_eq_true rfl, Nat.le_of_ble_eq_true rfl⟩ (by simp [cat_rf, cat_i, cat_j]) dX11_isMarked_4 ?_
  refine k_icmp_lt cx 12 dX11_isMarked_7 (by decide) (fun c3 => ?_) (fun c3 => ?_)
  · have h := ite_t h c3
    refine k_aload_n cx 0 dX11_isMarked_12 rfl rfl ?_
    refine k_iload_n cx 1 dX11_isMarked_13 rfl rfl ?_
    refine k_iconst cx 1 dX11_isMarked_14 (by decide) ?_
    refine k_iadd cx dX11_isMarked_15 ?_
    obtain ⟨q4, g5, h⟩ := bind_ok h
    refine k_callV cx iv_X11_206 (ci := 11) rfl (by decide) (w_X11_firstOn (dn_some hk0).2 g5) hk0 (As := [.int (p1 + 1)]) rfl rfl ⟨Nat.le_of_ble_eq_true rfl, Nat.le_of_ble_eq_true rfl⟩ (by simp [cat_rf, cat_i, cat_j]) dX11_isMarked_16 ?_
    refine k_istore_n cx (i := 2) [(2, .int q4), (0, va_rf (some t)), (1, .int p1)] dX11_isMarked_19 rfl (by decide) (by simp [cat_rf, cat_i, cat_j]) ?_
    refine k_aload_n cx 1 dX11_isMarked_20 rfl rfl ?_
    refine q_getR cx fl_X11_25 hk0 dX11_isMarked_21 ?_
    refine k_iload_n cx 0 dX11_isMarked_24 rfl rfl ?_
    obtain ⟨a6, g7, h⟩ := bind_ok h
    obtain ⟨j8, g9, h⟩ := bind_ok h
    refine k_iald cx g7 g9 dX11_isMarked_25 ?_
    refine k_if_ne cx 46 dX11_isMarked_26 (by decide) (fun c10 => ?_) (fun c10 => ?_)
    · have h := ite_t h c10
      refine k_iconst cx 0 dX11_isMarked_46 (by decide) ?_
      have h := Option.some.inj h
      exact k_zret cx hr hlk gz_0 (by rw [← h]) rfl dX11_isMarked_47
    · have h := ite_f h c10
      refine k_aload_n cx 1 dX11_isMarked_29 rfl rfl ?_
      refine k_aload_n cx 1 dX11_isMarked_30 rfl rfl ?_
      refine q_getR cx fl_X11_22 hk0 dX11_isMarked_31 ?_
      refine k_iload_n cx 0 dX11_isMarked_34 rfl rfl ?_
      obtain ⟨a11, g12, h⟩ := bind_ok h
      obtain ⟨j13, g14, h⟩ := bind_ok h
      refine k_iald cx g12 g14 dX11_isMarked_35 ?_
      obtain ⟨q15, g16, h⟩ := bind_ok h
      refine k_callV cx iv_X11_140 (ci := 11) rfl (by decide) (w_X11_beginsStanza (dn_some hk0).2 g16) hk0 (As := [.int (hpA σ a11 j13)]) rfl rfl ⟨Nat.le_of_ble_eq_true rfl, Nat.le_of_ble_eq_true rfl⟩ (by simp [cat_rf, cat_i, cat_j]) dX11_isMarked_36 ?_
      refine k_if_eq cx 46 dX11_isMarked_39 (by decide) (fun c17 => ?_) (fun c17 => ?_)
      · have h := ite_t h c17
        refine k_iconst cx 0 dX11_isMarked_46 (by decide) ?_
        have h := Option.some.inj h
        exact k_zret cx hr hlk gz_0 (by rw [← h]) rfl dX11_isMarked_47
      · have h := ite_f h c17
        refine k_iconst cx 1 dX11_isMarked_42 (by decide) ?_
        refine k_goto cx 47 dX11_isMarked_43 (by decide) ?_
        have h := Option.some.inj h
        exact k_zret cx hr hlk gz_1 (by rw [← h]) rfl dX11_isMarked_47
  · have h := ite_f h c3
    refine k_iconst cx 0 dX11_isMarked_10 (by decide) ?_
    have h := Option.some.inj h
    exact k_zret cx hr hlk gz_0 (by rw [← h]) rfl dX11_isMarked_11
set_option maxRecDepth 100000 in
set_option maxHeartbeats 4000000 in
theorem w_X11_pagePart {Γ : GE} {σ : St} {t : Nat} {p1 : Int32} {p2 : Int32} {ρ : Int32} (hk : hpK σ t = 11) (h : f_X11_pagePart σ t p1 p2 = some ρ) : Ct Γ yX11_pagePart cX11_pagePart 7 (some .int) 3 65 [va_rf (some t), .int p1, .int p2] σ (some (.int ρ)) σ := by
  refine ct_intro (own := RX11) (L0 := [(0, va_rf (some t)), (1, .int p1), (2, .int p2)]) (by decide +kernel) rfl (by simp [lg_sl, cat_rf, cat_i, cat_j]) (by simp [lv_args, cat_rf, cat_i, cat_j]) ?_
  intro p l e s m args below meth c hr hlk hin cx
  have hk0 := dn_eq hk
  unfold f_X11_pagePart at h
  refine k_iconst cx 0 dX11_pagePart_0 (by decide) ?_
  refine k_istore_n cx (i := 3) [(3, .int 0), (0, va_rf (some t)), (1, .int p1), (2, .int p2)] dX11_pagePart_1 rfl (by decide) (by simp [cat_rf, cat_i, cat_j]) ?_
  refine k_iconst cx 0 dX11_pagePart_2 (by decide) ?_
  refine k_istore cx [(4, .int 0), (3, .int 0), (0, va_rf (some t)), (1, .int p1), (2, .int p2)] dX11_pagePart_3 (by decide) (by simp [cat_rf, cat_i, cat_j]) ?_
  refine k_iconst cx 0 dX11_pagePart_5 (by decide) ?_
  refine k_istore cx [(5, .int 0), (4, .int 0), (3, .int 0), (0, va_rf (some t)), (1, .int p1), (2, .int p2)] dX11_pagePart_6 (by decide) (by simp [cat_rf, cat_i, cat_j]) ?_
  refine k_iconst cx 0 dX11_pagePart_8 (by decide) ?_
  refine k_istore cx [(6, .int 0), (5, .int 0), (4, .int 0), (3, .int 0), (0, va_rf (some t)), (1, .int p1), (2, .int p2)] dX11_pagePart_9 (by decide) (by simp [cat_rf, cat_i, cat_j]) ?_
  obtain ⟨x2, hxx2, h⟩ := bind_ok h
  have Kx2 : Og p l e s m args below meth c Γ 7 3 65 σ (some (.int ρ)) σ 69 [(0, va_rf (some t)), (1, .int p1), (2, .int p2), (3, .int x2.1), (4, .int x2.2.1), (5, .int x2.2.2)] [] σ := by
    refine k_iload_n cx 2 dX11_pagePart_69 rfl rfl ?_
    refine k_switch cx dX11_pagePart_70 (by decide) (fun hs => ?_) (by decide) (fun k off ho hs => ?_)
    · have h0 : ¬ p2 = 0 := fun q => by rw [q] at hs; revert hs; decide
      have h1 : ¬ p2 = 1 := fun q => by rw [q] at hs; revert hs; decide
      have h2 : ¬ p2 = 2 := fun q => by rw [q] at hs; revert hs; decide
      have h3 : ¬ p2 = 3 := fun q => by rw [q] at hs; revert hs; decide
      have h := ite_f h h0
      have h := ite_f h h1
      have h := ite_f h h2
      have h := ite_f h h3
      refine k_iload cx 5 dX11_pagePart_127 rfl ?_
      have h := Option.some.inj h
      exact k_iret cx hr hlk (by rw [← h]) rfl dX11_pagePart_129
    · match k, ho with
      | 0, ho =>
        cases ho
        have hv : p2 = 0 := Int32.toInt_inj.mp (by rw [hs]; rfl)
        have h := ite_t h hv
        refine ⟨by decide, ?_⟩
        refine k_iload_n cx 3 dX11_pagePart_100 rfl rfl ?_
        have h := Option.some.inj h
        exact k_iret cx hr hlk (by rw [← h]) rfl dX11_pagePart_101
      | 1, ho =>
        cases ho
        have hv : p2 = 1 := Int32.toInt_inj.mp (by rw [hs]; rfl)
        have h := ite_f h (show ¬ p2 = 0 from fun q => by rw [hv] at q; revert q; decide)
        have h := ite_t h hv
        refine ⟨by decide, ?_⟩
        refine k_iload cx 4 dX11_pagePart_102 rfl ?_
        refine k_iconst cx 1 dX11_pagePart_104 (by decide) ?_
        refine k_iadd cx dX11_pagePart_105 ?_
        have h := Option.some.inj h
        exact k_iret cx hr hlk (by rw [← h]) rfl dX11_pagePart_106
      | 2, ho =>
        cases ho
        have hv : p2 = 2 := Int32.toInt_inj.mp (by rw [hs]; rfl)
        have h := ite_f h (show ¬ p2 = 0 from fun q => by rw [hv] at q; revert q; decide)
        have h := ite_f h (show ¬ p2 = 1 from fun q => by rw [hv] at q; revert q; decide)
        have h := ite_t h hv
        refine ⟨by decide, ?_⟩
        refine k_aload_n cx 0 dX11_pagePart_107 rfl rfl ?_
        refine k_iload_n cx 1 dX11_pagePart_108 rfl rfl ?_
        obtain ⟨q20, g21, h⟩ := bind_ok h
        refine k_callV cx iv_X11_209 (ci := 11) rfl (by decide) (w_X11_isMarked (dn_some hk0).2 g21) hk0 (As := [.int p1]) rfl rfl ⟨Nat.le_of_ble_eq_true rfl, Nat.le_of_ble_eq_true rfl⟩ (by simp [cat_rf, cat_i, cat_j]) dX11_pagePart_109 ?_
        refine k_if_eq cx 119 dX11_pagePart_112 (by decide) (fun c22 => ?_) (fun c22 => ?_)
        · have h := ite_t h c22
          refine k_iconst cx 0 dX11_pagePart_119 (by decide) ?_
          have h := Option.some.inj h
          exact k_iret cx hr hlk (by rw [← h]) rfl dX11_pagePart_120
        · have h := ite_f h c22
          refine k_iconst cx 1 dX11_pagePart_115 (by decide) ?_
          refine k_goto cx 120 dX11_pagePart_116 (by decide) ?_
          have h := Option.some.inj h
          exact k_iret cx hr hlk (by rw [← h]) rfl dX11_pagePart_120
      | 3, ho =>
        cases ho
        have hv : p2 = 3 := Int32.toInt_inj.mp (by rw [hs]; rfl)
        have h := ite_f h (show ¬ p2 = 0 from fun q => by rw [hv] at q; revert q; decide)
        have h := ite_f h (show ¬ p2 = 1 from fun q => by rw [hv] at q; revert q; decide)
        have h := ite_f h (show ¬ p2 = 2 from fun q => by rw [hv] at q; revert q; decide)
        have h := ite_t h hv
        refine ⟨by decide, ?_⟩
        refine k_aload_n cx 0 dX11_pagePart_121 rfl rfl ?_
        refine k_iload_n cx 1 dX11_pagePart_122 rfl rfl ?_
        obtain ⟨q23, g24, h⟩ := bind_ok h
        refine k_callV cx iv_X11_206 (ci := 11) rfl (by decide) (w_X11_firstOn (dn_some hk0).2 g24) hk0 (As := [.int p1]) rfl rfl ⟨Nat.le_of_ble_eq_true rfl, Nat.le_of_ble_eq_true rfl⟩ (by simp [cat_rf, cat_i, cat_j]) dX11_pagePart_123 ?_
        have h := Option.some.inj h
        exact k_iret cx hr hlk (by rw [← h]) rfl dX11_pagePart_126
      | k + 4, ho => exact absurd ho (by simp)
  have KLx2 : ∀ (n : Nat) (v3 : Int32) (v4 : Int32) (v5 : Int32) (v6 : Int32), LX11_pagePart_11 n σ t p1 p2 v3 v4 v5 v6 = some x2 → Og p l e s m args below meth c Γ 7 3 65 σ (some (.int ρ)) σ 11 [(0, va_rf (some t)), (1, .int p1), (2, .int p2), (3, .int v3), (4, .int v4), (5, .int v5), (6, .int v6)] [] σ := by
    intro n
    induction n with
    | zero => intro _ _ _ _ h; cases (show (none : Option _) = some x2 from h)
    | succ n ihx2 =>
      intro v3 v4 v5 v6 h
      rw [LX11_pagePart_11] at h
      refine k_iload cx 6 dX11_pagePart_11 rfl ?_
      refine k_aload_n cx 0 dX11_pagePart_13 rfl rfl ?_
      refine q_getI cx fl_X11_150 hk0 dX11_pagePart_14 ?_
      refine k_icmp_ge cx 69 dX11_pagePart_17 (by decide) (fun c3 => ?_) (fun c3 => ?_)
      · have h := ite_t h c3
        refine k_sub [0, 1, 2, 3, 4, 5] rfl ?_
        obtain rfl := Option.some.inj h
        exact Kx2
      · have h := ite_f h c3
        refine k_aload_n cx 0 dX11_pagePart_20 rfl rfl ?_
        refine q_getR cx fl_X11_40 hk0 dX11_pagePart_21 ?_
        refine k_iload cx 6 dX11_pagePart_24 rfl ?_
        obtain ⟨a4, g5, h⟩ := bind_ok h
        obtain ⟨j6, g7, h⟩ := bind_ok h
        refine k_iald cx g5 g7 dX11_pagePart_26 ?_
        refine k_iload_n cx 1 dX11_pagePart_27 rfl rfl ?_
        obtain ⟨x8, hxx8, h⟩ := bind_ok h
        have Kx8 : Og p l e s m args below meth c Γ 7 3 65 σ (some (.int ρ)) σ 63 [(0, va_rf (some t)), (1, .int p1), (2, .int p2), (3, .int x8.1), (4, .int x8.2.1), (5, .int x8.2.2), (6, .int v6)] [] σ := by
          refine k_iinc cx 6 [(6, .int (v6 + 1)), (0, va_rf (some t)), (1, .int p1), (2, .int p2), (3, .int x8.1), (4, .int x8.2.1), (5, .int x8.2.2)] (v6 + 1) dX11_pagePart_63 rfl rfl (by decide) (by simp [cat_rf, cat_i, cat_j]) ?_
          refine k_goto cx 11 dX11_pagePart_66 (by decide) ?_
          refine k_sub [1, 2, 3, 4, 5, 6, 0] rfl ?_
          exact ihx2 _ _ _ _ h
        have h := hxx8
        refine k_icmp_ne cx 63 dX11_pagePart_28 (by decide) (fun c9 => ?_) (fun c9 => ?_)
        · have h := ite_t h c9
          obtain rfl := Option.some.inj h
          exact Kx8
        · have h := ite_f h c9
          refine k_iinc cx 3 [(3, .int (v3 + 1)), (0, va_rf (some t)), (1, .int p1), (2, .int p2), (4, .int v4), (5, .int v5), (6, .int v6)] (v3 + 1) dX11_pagePart_31 rfl rfl (by decide) (by simp [cat_rf, cat_i, cat_j]) ?_
          refine k_aload_n cx 1 dX11_pagePart_34 rfl rfl ?_
          refine q_getR cx fl_X11_43 hk0 dX11_pagePart_35 ?_
          refine k_iload cx 6 dX11_pagePart_38 rfl ?_
          obtain ⟨a10, g11, h⟩ := bind_ok h
          obtain ⟨j12, g13, h⟩ := bind_ok h
          refine k_iald cx g11 g13 dX11_pagePart_40 ?_
          refine k_istore cx [(4, .int (hpA σ a10 j12)), (3, .int (v3 + 1)), (0, va_rf (some t)), (1, .int p1), (2, .int p2), (5, .int v5), (6, .int v6)] dX11_pagePart_41 (by decide) (by simp [cat_rf, cat_i, cat_j]) ?_
          refine k_iload cx 5 dX11_pagePart_43 rfl ?_
          refine k_aload_n cx 2 dX11_pagePart_45 rfl rfl ?_
          refine q_getR cx fl_X11_25 hk0 dX11_pagePart_46 ?_
          refine k_iload cx 6 dX11_pagePart_49 rfl ?_
          obtain ⟨a14, g15, h⟩ := bind_ok h
          obtain ⟨j16, g17, h⟩ := bind_ok h
          refine k_iald cx g15 g17 dX11_pagePart_51 ?_
          obtain ⟨x18, hxx18, h⟩ := bind_ok h
          have Kx18 : Og p l e s m args below meth c Γ 7 3 65 σ (some (.int ρ)) σ 60 [(0, va_rf (some t)), (1, .int p1), (2, .int p2), (3, .int (v3 + 1)), (4, .int (hpA σ a10 j12)), (6, .int v6)] [.int x18, .int v5] σ := by
            refine k_iadd cx dX11_pagePart_60 ?_
            refine k_istore cx [(5, .int (v5 + x18)), (0, va_rf (some t)), (1, .int p1), (2, .int p2), (3, .int (v3 + 1)), (4, .int (hpA σ a10 j12)), (6, .int v6)] dX11_pagePart_61 (by decide) (by simp [cat_rf, cat_i, cat_j]) ?_
            refine k_sub [1, 2, 3, 4, 5, 0, 6] rfl ?_
            obtain rfl := Option.some.inj h
            exact Kx8
          have h := hxx18
          refine k_if_ne cx 59 dX11_pagePart_52 (by decide) (fun c19 => ?_) (fun c19 => ?_)
          · have h := ite_t h c19
            refine k_iconst cx 0 dX11_pagePart_59 (by decide) ?_
            refine k_sub [2, 3, 4, 1, 0, 6] rfl ?_
            obtain rfl := Option.some.inj h
            exact Kx18
          · have h := ite_f h c19
            refine k_iconst cx 1 dX11_pagePart_55 (by decide) ?_
            refine k_goto cx 60 dX11_pagePart_56 (by decide) ?_
            refine k_sub [2, 3, 4, 1, 0, 6] rfl ?_
            obtain rfl := Option.some.inj h
            exact Kx18
  refine k_sub [4, 5, 6, 3, 2, 1, 0] rfl ?_
  exact KLx2 FU _ _ _ _ hxx2
set_option maxRecDepth 100000 in
set_option maxHeartbeats 4000000 in
theorem w_X11_page {Γ : GE} {σ : St} {t : Nat} {p1 : Int32} {p2 : Int32} {ρ : Int32 × St} (hk : hpK σ t = 11) (h : f_X11_page σ t p1 p2 = some ρ) : Ct Γ yX11_page cX11_page 3 (some .int) 5 114 [va_rf (some t), .int p1, .int p2] σ (some (.int ρ.1)) ρ.2 := by
  refine ct_intro (own := RX11) (L0 := [(0, va_rf (some t)), (1, .int p1), (2, .int p2)]) (by decide +kernel) rfl (by simp [lg_sl, cat_rf, cat_i, cat_j]) (by simp [lv_args, cat_rf, cat_i, cat_j]) ?_
  intro p l e s m args below meth c hr hlk hin cx
  have hk0 := dn_eq hk
  unfold f_X11_page at h
  refine k_aload_n cx 0 dX11_page_0 rfl rfl ?_
  obtain ⟨q1, g2, h⟩ := bind_ok h
  refine k_callV cx iv_X11_188 (ci := 11) rfl (by decide) (w_X11_draws (dn_some hk0).2 g2) hk0 (As := []) rfl rfl ⟨Nat.le_of_ble_eq_true rfl, Nat.le_of_ble_eq_true rfl⟩ (by simp [cat_rf, cat_i, cat_j]) dX11_page_1 ?_
  refine k_iload_n cx 1 dX11_page_4 rfl rfl ?_
  refine k_iconst cx 0 dX11_page_5 (by decide) ?_
  refine k_aload_n cx 0 dX11_page_6 rfl rfl ?_
  obtain ⟨a3, g4, h⟩ := bind_ok h
  obtain ⟨q5, g6, h⟩ := bind_ok h
  refine k_callV cx iv_X11_200 (ci := 11) rfl (by decide) (w_X11_pages (dn_some g4).2 g6) g4 (As := []) rfl rfl ⟨Nat.le_of_ble_eq_true rfl, Nat.le_of_ble_eq_true rfl⟩ (by simp [cat_rf, cat_i, cat_j]) dX11_page_7 ?_
  refine k_iconst cx 1 dX11_page_10 (by decide) ?_
  refine k_isub cx dX11_page_11 ?_
  obtain ⟨q7, g8, h⟩ := bind_ok h
  refine k_callS cx iv_X11_62 (w_X11_in g8) (As := [.int p1, .int 0, .int (q5 - 1)]) rfl rfl ⟨Nat.le_of_ble_eq_true rfl, Nat.le_of_ble_eq_true rfl⟩ (by simp [cat_rf, cat_i, cat_j]) dX11_page_12 ?_
  refine k_if_eq cx 36 dX11_page_15 (by decide) (fun c9 => ?_) (fun c9 => ?_)
  · have h := ite_t h c9
    refine k_bipush cx (-2) dX11_page_36 (by decide) ?_
    have h := Option.some.inj h
    exact k_iret cx hr hlk (by rw [← h]) (by rw [← h]) dX11_page_38
  · have h := ite_f h c9
    refine k_iload_n cx 2 dX11_page_18 rfl rfl ?_
    refine k_iconst cx 0 dX11_page_19 (by decide) ?_
    refine k_iconst cx 4 dX11_page_20 (by decide) ?_
    obtain ⟨q10, g11, h⟩ := bind_ok h
    refine k_callS cx iv_X11_62 (w_X11_in g11) (As := [.int p2, .int 0, .int 4]) rfl rfl ⟨Nat.le_of_ble_eq_true rfl, Nat.le_of_ble_eq_true rfl⟩ (by simp [cat_rf, cat_i, cat_j]) dX11_page_21 ?_
    refine k_if_eq cx 36 dX11_page_24 (by decide) (fun c12 => ?_) (fun c12 => ?_)
    · have h := ite_t h c12
      refine k_bipush cx (-2) dX11_page_36 (by decide) ?_
      have h := Option.some.inj h
      exact k_iret cx hr hlk (by rw [← h]) (by rw [← h]) dX11_page_38
    · have h := ite_f h c12
      refine k_aload_n cx 0 dX11_page_27 rfl rfl ?_
      refine k_iload_n cx 1 dX11_page_28 rfl rfl ?_
      refine k_iload_n cx 2 dX11_page_29 rfl rfl ?_
      obtain ⟨q13, g14, h⟩ := bind_ok h
      refine k_callV cx iv_X11_212 (ci := 11) rfl (by decide) (w_X11_pagePart (dn_some g4).2 g14) g4 (As := [.int p1, .int p2]) rfl rfl ⟨Nat.le_of_ble_eq_true rfl, Nat.le_of_ble_eq_true rfl⟩ (by simp [cat_rf, cat_i, cat_j]) dX11_page_30 ?_
      refine k_goto cx 38 dX11_page_33 (by decide) ?_
      have h := Option.some.inj h
      exact k_iret cx hr hlk (by rw [← h]) (by rw [← h]) dX11_page_38
set_option maxRecDepth 100000 in
set_option maxHeartbeats 4000000 in
theorem w_X11_aim {Γ : GE} {σ : St} {p1 : Int32} {p2 : Int32} {p3 : Int32} {p4 : Int32} {ρ : Int32} (h : f_X11_aim σ p1 p2 p3 p4 = some ρ) : Ct Γ yX11_aim cX11_aim 6 (some .int) 1 21 [.int p1, .int p2, .int p3, .int p4] σ (some (.int ρ)) σ := by
  refine ct_intro (own := RX11) (L0 := [(0, .int p1), (1, .int p2), (2, .int p3), (3, .int p4)]) (by decide +kernel) rfl (by simp [lg_sl, cat_rf, cat_i, cat_j]) (by simp [lv_args, cat_rf, cat_i, cat_j]) ?_
  intro p l e s m args below meth c hr hlk hin cx
  unfold f_X11_aim at h
  refine k_iload_n cx 3 dX11_aim_0 rfl rfl ?_
  refine k_iconst cx 1 dX11_aim_1 (by decide) ?_
  refine k_iadd cx dX11_aim_2 ?_
  refine k_istore cx [(4, .int (p4 + 1)), (0, .int p1), (1, .int p2), (2, .int p3), (3, .int p4)] dX11_aim_3 (by decide) (by simp [cat_rf, cat_i, cat_j]) ?_
  refine k_iload_n cx 3 dX11_aim_5 rfl rfl ?_
  refine k_iload_n cx 4 dX11_aim_6 rfl rfl ?_
  refine k_isub cx dX11_aim_7 ?_
  refine k_istore cx [(5, .int (p3 - p4)), (4, .int (p4 + 1)), (0, .int p1), (1, .int p2), (2, .int p3), (3, .int p4)] dX11_aim_8 (by decide) (by simp [cat_rf, cat_i, cat_j]) ?_
  refine k_iload_n cx 2 dX11_aim_10 rfl rfl ?_
  refine k_switch cx dX11_aim_11 (by decide) (fun hs => ?_) (by decide) (fun k off ho hs => ?_)
  · have h0 : ¬ p1 = 0 := fun q => by rw [q] at hs; revert hs; decide
    have h1 : ¬ p1 = 1 := fun q => by rw [q] at hs; revert hs; decide
    have h2 : ¬ p1 = 2 := fun q => by rw [q] at hs; revert hs; decide
    have h := ite_f h h0
    have h := ite_f h h1
    have h := ite_f h h2
    refine k_iload_n cx 3 dX11_aim_65 rfl rfl ?_
    refine k_iload cx 1 dX11_aim_66 rfl ?_
    refine k_iload cx 0 dX11_aim_68 rfl ?_
    refine k_icmp_le cx 78 dX11_aim_70 (by decide) (fun c9 => ?_) (fun c9 => ?_)
    · have h := ite_t h c9
      refine k_iload cx 0 dX11_aim_78 rfl ?_
      refine k_imul cx dX11_aim_80 ?_
      refine k_iload_n cx 4 dX11_aim_81 rfl rfl ?_
      obtain ⟨w10, g11, h⟩ := bind_ok h
      refine k_idiv cx dX11_aim_82 g11 ?_
      have h := Option.some.inj h
      exact k_iret cx hr hlk (by rw [← h]) rfl dX11_aim_83
    · have h := ite_f h c9
      refine k_iload cx 1 dX11_aim_73 rfl ?_
      refine k_goto cx 80 dX11_aim_75 (by decide) ?_
      refine k_imul cx dX11_aim_80 ?_
      refine k_iload_n cx 4 dX11_aim_81 rfl rfl ?_
      obtain ⟨w12, g13, h⟩ := bind_ok h
      refine k_idiv cx dX11_aim_82 g13 ?_
      have h := Option.some.inj h
      exact k_iret cx hr hlk (by rw [← h]) rfl dX11_aim_83
  · match k, ho with
    | 0, ho =>
      cases ho
      have hv : p1 = 0 := Int32.toInt_inj.mp (by rw [hs]; rfl)
      have h := ite_t h hv
      refine ⟨by decide, ?_⟩
      refine k_iload_n cx 3 dX11_aim_36 rfl rfl ?_
      have h := Option.some.inj h
      exact k_iret cx hr hlk (by rw [← h]) rfl dX11_aim_37
    | 1, ho =>
      cases ho
      have hv : p1 = 1 := Int32.toInt_inj.mp (by rw [hs]; rfl)
      have h := ite_f h (show ¬ p1 = 0 from fun q => by rw [hv] at q; revert q; decide)
      have h := ite_t h hv
      refine ⟨by decide, ?_⟩
      refine k_iload_n cx 3 dX11_aim_38 rfl rfl ?_
      refine k_iload cx 1 dX11_aim_39 rfl ?_
      refine k_imul cx dX11_aim_41 ?_
      refine k_iload_n cx 4 dX11_aim_42 rfl rfl ?_
      obtain ⟨w1, g2, h⟩ := bind_ok h
      refine k_idiv cx dX11_aim_43 g2 ?_
      have h := Option.some.inj h
      exact k_iret cx hr hlk (by rw [← h]) rfl dX11_aim_44
    | 2, ho =>
      cases ho
      have hv : p1 = 2 := Int32.toInt_inj.mp (by rw [hs]; rfl)
      have h := ite_f h (show ¬ p1 = 0 from fun q => by rw [hv] at q; revert q; decide)
      have h := ite_f h (show ¬ p1 = 1 from fun q => by rw [hv] at q; revert q; decide)
      have h := ite_t h hv
      refine ⟨by decide, ?_⟩
      refine k_iload_n cx 3 dX11_aim_45 rfl rfl ?_
      refine k_iconst cx 2 dX11_aim_46 (by decide) ?_
      refine k_iload_n cx 3 dX11_aim_47 rfl rfl ?_
      refine k_imul cx dX11_aim_48 ?_
      refine k_iload cx 1 dX11_aim_49 rfl ?_
      refine k_iload cx 0 dX11_aim_51 rfl ?_
      obtain ⟨q3, g4, h⟩ := bind_ok h
      refine k_callS cx iv_X11_153 (w_X11_lesser g4) (As := [.int (p4 + 1), .int (p3 - p4)]) rfl rfl ⟨Nat.le_of_ble_eq_true rfl, Nat.le_of_ble_eq_true rfl⟩ (by simp [cat_rf, cat_i, cat_j]) dX11_aim_53 ?_
      refine k_imul cx dX11_aim_56 ?_
      refine k_iload_n cx 4 dX11_aim_57 rfl rfl ?_
      refine k_iconst cx 1 dX11_aim_58 (by decide) ?_
      refine k_iadd cx dX11_aim_59 ?_
      obtain ⟨w5, g6, h⟩ := bind_ok h
      refine k_idiv cx dX11_aim_60 g6 ?_
      obtain ⟨q7, g8, h⟩ := bind_ok h
      refine k_callS cx iv_X11_153 (w_X11_lesser g8) (As := [.int p2, .int (((2 * p2) * q3) / (p3 + 1))]) rfl rfl ⟨Nat.le_of_ble_eq_true rfl, Nat.le_of_ble_eq_true rfl⟩ (by simp [cat_rf, cat_i, cat_j]) dX11_aim_61 ?_
      have h := Option.some.inj h
      exact k_iret cx hr hlk (by rw [← h]) rfl dX11_aim_64
    | k + 3, ho => exact absurd ho (by simp)
set_option maxRecDepth 100000 in
set_option maxHeartbeats 4000000 in
theorem w_X11_far {Γ : GE} {σ : St} {t : Nat} {p1 : Int32} {p2 : Int32} {ρ : Int32} (hk : hpK σ t = 11) (h : f_X11_far σ t p1 p2 = some ρ) : Ct Γ yX11_far cX11_far 9 (some .int) 2 46 [va_rf (some t), .int p1, .int p2] σ (some (.int ρ)) σ := by
  refine ct_intro (own := RX11) (L0 := [(0, va_rf (some t)), (1, .int p1), (2, .int p2)]) (by decide +kernel) rfl (by simp [lg_sl, cat_rf, cat_i, cat_j]) (by simp [lv_args, cat_rf, cat_i, cat_j]) ?_
  intro p l e s m args below meth c hr hlk hin cx
  have hk0 := dn_eq hk
  unfold f_X11_far at h
  refine k_iconst cx (-1) dX11_far_0 (by decide) ?_
  refine k_istore_n cx (i := 3) [(3, .int (-1)), (0, va_rf (some t)), (1, .int p1), (2, .int p2)] dX11_far_1 rfl (by decide) (by simp [cat_rf, cat_i, cat_j]) ?_
  refine k_iconst cx 0 dX11_far_2 (by decide) ?_
  refine k_istore cx [(4, .int 0), (3, .int (-1)), (0, va_rf (some t)), (1, .int p1), (2, .int p2)] dX11_far_3 (by decide) (by simp [cat_rf, cat_i, cat_j]) ?_
  refine k_iconst cx 0 dX11_far_5 (by decide) ?_
  refine k_istore cx [(5, .int 0), (4, .int 0), (3, .int (-1)), (0, va_rf (some t)), (1, .int p1), (2, .int p2)] dX11_far_6 (by decide) (by simp [cat_rf, cat_i, cat_j]) ?_
  refine k_iconst cx 0 dX11_far_8 (by decide) ?_
  refine k_istore cx [(6, .int 0), (5, .int 0), (4, .int 0), (3, .int (-1)), (0, va_rf (some t)), (1, .int p1), (2, .int p2)] dX11_far_9 (by decide) (by simp [cat_rf, cat_i, cat_j]) ?_
  obtain ⟨x2, hxx2, h⟩ := bind_ok h
  have Kx2 : Og p l e s m args below meth c Γ 9 2 46 σ (some (.int ρ)) σ 90 [(0, va_rf (some t)), (2, .int p2), (3, .int x2.1), (4, .int x2.2.1), (5, .int x2.2.2)] [] σ := by
    refine k_iconst cx 0 dX11_far_90 (by decide) ?_
    refine k_istore cx [(6, .int 0), (0, va_rf (some t)), (2, .int p2), (3, .int x2.1), (4, .int x2.2.1), (5, .int x2.2.2)] dX11_far_91 (by decide) (by simp [cat_rf, cat_i, cat_j]) ?_
    refine k_iconst cx 0 dX11_far_93 (by decide) ?_
    refine k_istore cx [(7, .int 0), (6, .int 0), (0, va_rf (some t)), (2, .int p2), (3, .int x2.1), (4, .int x2.2.1), (5, .int x2.2.2)] dX11_far_94 (by decide) (by simp [cat_rf, cat_i, cat_j]) ?_
    obtain ⟨x27, hxx27, h⟩ := bind_ok h
    have Kx27 : Og p l e s m args below meth c Γ 9 2 46 σ (some (.int ρ)) σ 159 [(6, .int x27)] [] σ := by
      refine k_iload cx 0 dX11_far_159 rfl ?_
      have h := Option.some.inj h
      exact k_iret cx hr hlk (by rw [← h]) rfl dX11_far_161
    have KLx27 : ∀ (n : Nat) (v6 : Int32) (v7 : Int32), LX11_far_96 n σ t p2 x2.1 x2.2.1 x2.2.2 v6 v7 = some x27 → Og p l e s m args below meth c Γ 9 2 46 σ (some (.int ρ)) σ 96 [(0, va_rf (some t)), (2, .int p2), (3, .int x2.1), (4, .int x2.2.1), (5, .int x2.2.2), (6, .int v6), (7, .int v7)] [] σ := by
      intro n
      induction n with
      | zero => intro _ _ h; cases (show (none : Option _) = some x27 from h)
      | succ n ihx27 =>
        intro v6 v7 h
        rw [LX11_far_96] at h
        refine k_iload cx 6 dX11_far_96 rfl ?_
        refine k_iload cx 3 dX11_far_98 rfl ?_
        refine k_icmp_ge cx 159 dX11_far_100 (by decide) (fun c28 => ?_) (fun c28 => ?_)
        · have h := ite_t h c28
          refine k_sub [5] rfl ?_
          obtain rfl := Option.some.inj h
          exact Kx27
        · have h := ite_f h c28
          refine k_aload_n cx 0 dX11_far_103 rfl rfl ?_
          refine q_getR cx fl_X11_28 hk0 dX11_far_104 ?_
          refine k_iload_n cx 2 dX11_far_107 rfl rfl ?_
          refine k_iload cx 6 dX11_far_108 rfl ?_
          refine k_iadd cx dX11_far_110 ?_
          obtain ⟨a29, g30, h⟩ := bind_ok h
          obtain ⟨j31, g32, h⟩ := bind_ok h
          refine k_iald cx g30 g32 dX11_far_111 ?_
          refine k_aload_n cx 0 dX11_far_112 rfl rfl ?_
          refine q_getR cx fl_X11_31 hk0 dX11_far_113 ?_
          refine k_iload_n cx 2 dX11_far_116 rfl rfl ?_
          refine k_iload cx 6 dX11_far_117 rfl ?_
          refine k_iadd cx dX11_far_119 ?_
          obtain ⟨a33, g34, h⟩ := bind_ok h
          obtain ⟨j35, g36, h⟩ := bind_ok h
          refine k_iald cx g34 g36 dX11_far_120 ?_
          refine k_iadd cx dX11_far_121 ?_
          refine k_iload_n cx 1 dX11_far_122 rfl rfl ?_
          refine k_iload cx 4 dX11_far_123 rfl ?_
          refine k_iload cx 3 dX11_far_125 rfl ?_
          refine k_iload cx 6 dX11_far_127 rfl ?_
          obtain ⟨q37, g38, h⟩ := bind_ok h
          refine k_callS cx iv_X11_215 (w_X11_aim g38) (As := [.int p2, .int x2.2.2, .int x2.2.1, .int v7]) rfl rfl ⟨Nat.le_of_ble_eq_true rfl, Nat.le_of_ble_eq_true rfl⟩ (by simp [cat_rf, cat_i, cat_j]) dX11_far_129 ?_
          refine k_isub cx dX11_far_132 ?_
          refine k_istore cx [(8, .int (((hpA σ a29 j31) + (hpA σ a33 j35)) - q37)), (0, va_rf (some t)), (2, .int p2), (3, .int x2.1), (4, .int x2.2.1), (5, .int x2.2.2), (6, .int v6), (7, .int v7)] dX11_far_133 (by decide) (by simp [cat_rf, cat_i, cat_j]) ?_
          refine k_iload cx 6 dX11_far_135 rfl ?_
          refine k_iload cx 0 dX11_far_137 rfl ?_
          obtain ⟨x39, hxx39, h⟩ := bind_ok h
          have Kx39 : Og p l e s m args below meth c Γ 9 2 46 σ (some (.int ρ)) σ 150 [(0, va_rf (some t)), (2, .int p2), (3, .int x2.1), (4, .int x2.2.1), (5, .int x2.2.2), (7, .int v7)] [.int x39, .int v6] σ := by
            refine k_iadd cx dX11_far_150 ?_
            refine k_istore cx [(6, .int (v6 + x39)), (0, va_rf (some t)), (2, .int p2), (3, .int x2.1), (4, .int x2.2.1), (5, .int x2.2.2), (7, .int v7)] dX11_far_151 (by decide) (by simp [cat_rf, cat_i, cat_j]) ?_
            refine k_iinc cx 6 [(7, .int (v7 + 1)), (6, .int (v6 + x39)), (0, va_rf (some t)), (2, .int p2), (3, .int x2.1), (4, .int x2.2.1), (5, .int x2.2.2)] (v7 + 1) dX11_far_153 rfl rfl (by decide) (by simp [cat_rf, cat_i, cat_j]) ?_
            refine k_goto cx 96 dX11_far_156 (by decide) ?_
            refine k_sub [2, 3, 4, 5, 6, 1, 0] rfl ?_
            exact ihx27 _ _ h
          have h := hxx39
          refine k_if_ge cx 148 dX11_far_139 (by decide) (fun c40 => ?_) (fun c40 => ?_)
          · have h := ite_t h c40
            refine k_iload cx 0 dX11_far_148 rfl ?_
            refine k_sub [1, 2, 3, 4, 5, 7] rfl ?_
            obtain rfl := Option.some.inj h
            exact Kx39
          · have h := ite_f h c40
            refine k_iload cx 0 dX11_far_142 rfl ?_
            refine k_ineg cx dX11_far_144 ?_
            refine k_goto cx 150 dX11_far_145 (by decide) ?_
            refine k_sub [1, 2, 3, 4, 5, 7] rfl ?_
            obtain rfl := Option.some.inj h
            exact Kx39
    refine k_sub [2, 3, 4, 5, 6, 1, 0] rfl ?_
    exact KLx27 FU _ _ hxx27
  have KLx2 : ∀ (n : Nat) (v3 : Int32) (v4 : Int32) (v5 : Int32) (v6 : Int32), LX11_far_11 n σ t p1 p2 v3 v4 v5 v6 = some x2 → Og p l e s m args below meth c Γ 9 2 46 σ (some (.int ρ)) σ 11 [(0, va_rf (some t)), (1, .int p1), (2, .int p2), (3, .int v3), (4, .int v4), (5, .int v5), (6, .int v6)] [] σ := by
    intro n
    induction n with
    | zero => intro _ _ _ _ h; cases (show (none : Option _) = some x2 from h)
    | succ n ihx2 =>
      intro v3 v4 v5 v6 h
      rw [LX11_far_11] at h
      refine k_iload cx 6 dX11_far_11 rfl ?_
      refine k_aload_n cx 0 dX11_far_13 rfl rfl ?_
      refine q_getI cx fl_X11_150 hk0 dX11_far_14 ?_
      refine k_icmp_ge cx 90 dX11_far_17 (by decide) (fun c3 => ?_) (fun c3 => ?_)
      · have h := ite_t h c3
        refine k_sub [0, 2, 3, 4, 5] rfl ?_
        obtain rfl := Option.some.inj h
        exact Kx2
      · have h := ite_f h c3
        refine k_aload_n cx 0 dX11_far_20 rfl rfl ?_
        refine q_getR cx fl_X11_46 hk0 dX11_far_21 ?_
        refine k_aload_n cx 0 dX11_far_24 rfl rfl ?_
        refine q_getR cx fl_X11_22 hk0 dX11_far_25 ?_
        refine k_iload cx 6 dX11_far_28 rfl ?_
        obtain ⟨a4, g5, h⟩ := bind_ok h
        obtain ⟨j6, g7, h⟩ := bind_ok h
        refine k_iald cx g5 g7 dX11_far_30 ?_
        obtain ⟨a8, g9, h⟩ := bind_ok h
        obtain ⟨j10, g11, h⟩ := bind_ok h
        refine k_iald cx g9 g11 dX11_far_31 ?_
        refine k_iload_n cx 1 dX11_far_32 rfl rfl ?_
        obtain ⟨x12, hxx12, h⟩ := bind_ok h
        have Kx12 : Og p l e s m args below meth c Γ 9 2 46 σ (some (.int ρ)) σ 84 [(0, va_rf (some t)), (1, .int p1), (2, .int p2), (3, .int x12.1), (4, .int x12.2.1), (5, .int x12.2.2), (6, .int v6)] [] σ := by
          refine k_iinc cx 6 [(6, .int (v6 + 1)), (0, va_rf (some t)), (1, .int p1), (2, .int p2), (3, .int x12.1), (4, .int x12.2.1), (5, .int x12.2.2)] (v6 + 1) dX11_far_84 rfl rfl (by decide) (by simp [cat_rf, cat_i, cat_j]) ?_
          refine k_goto cx 11 dX11_far_87 (by decide) ?_
          refine k_sub [1, 2, 3, 4, 5, 6, 0] rfl ?_
          exact ihx2 _ _ _ _ h
        have h := hxx12
        refine k_icmp_ne cx 84 dX11_far_33 (by decide) (fun c13 => ?_) (fun c13 => ?_)
        · have h := ite_t h c13
          obtain rfl := Option.some.inj h
          exact Kx12
        · have h := ite_f h c13
          refine k_iload_n cx 3 dX11_far_36 rfl rfl ?_
          refine k_iconst cx (-1) dX11_far_37 (by decide) ?_
          obtain ⟨x14, hxx14, h⟩ := bind_ok h
          have Kx14 : Og p l e s m args below meth c Γ 9 2 46 σ (some (.int ρ)) σ 47 [(0, va_rf (some t)), (1, .int p1), (2, .int p2), (4, .int v4), (5, .int v5), (6, .int v6)] [.int x14] σ := by
            refine k_istore_n cx (i := 3) [(3, .int x14), (0, va_rf (some t)), (1, .int p1), (2, .int p2), (4, .int v4), (5, .int v5), (6, .int v6)] dX11_far_47 rfl (by decide) (by simp [cat_rf, cat_i, cat_j]) ?_
            refine k_iinc cx 4 [(4, .int (v4 + 1)), (3, .int x14), (0, va_rf (some t)), (1, .int p1), (2, .int p2), (5, .int v5), (6, .int v6)] (v4 + 1) dX11_far_48 rfl rfl (by decide) (by simp [cat_rf, cat_i, cat_j]) ?_
            refine k_aload_n cx 2 dX11_far_51 rfl rfl ?_
            refine q_getR cx fl_X11_28 hk0 dX11_far_52 ?_
            refine k_iload cx 6 dX11_far_55 rfl ?_
            obtain ⟨a16, g17, h⟩ := bind_ok h
            obtain ⟨j18, g19, h⟩ := bind_ok h
            refine k_iald cx g17 g19 dX11_far_57 ?_
            refine k_aload_n cx 2 dX11_far_58 rfl rfl ?_
            refine q_getR cx fl_X11_31 hk0 dX11_far_59 ?_
            refine k_iload cx 6 dX11_far_62 rfl ?_
            obtain ⟨a20, g21, h⟩ := bind_ok h
            obtain ⟨j22, g23, h⟩ := bind_ok h
            refine k_iald cx g21 g23 dX11_far_64 ?_
            refine k_iadd cx dX11_far_65 ?_
            refine k_istore cx [(7, .int ((hpA σ a16 j18) + (hpA σ a20 j22))), (4, .int (v4 + 1)), (3, .int x14), (0, va_rf (some t)), (1, .int p1), (2, .int p2), (5, .int v5), (6, .int v6)] dX11_far_66 (by decide) (by simp [cat_rf, cat_i, cat_j]) ?_
            refine k_iload cx 0 dX11_far_68 rfl ?_
            refine k_iload cx 6 dX11_far_70 rfl ?_
            obtain ⟨x24, hxx24, h⟩ := bind_ok h
            have Kx24 : Og p l e s m args below meth c Γ 9 2 46 σ (some (.int ρ)) σ 82 [(0, va_rf (some t)), (1, .int p1), (2, .int p2), (3, .int x14), (4, .int (v4 + 1)), (6, .int v6)] [.int x24] σ := by
              refine k_istore cx [(5, .int x24), (0, va_rf (some t)), (1, .int p1), (2, .int p2), (3, .int x14), (4, .int (v4 + 1)), (6, .int v6)] dX11_far_82 (by decide) (by simp [cat_rf, cat_i, cat_j]) ?_
              refine k_sub [1, 2, 3, 4, 5, 0, 6] rfl ?_
              obtain rfl := Option.some.inj h
              exact Kx12
            have h := hxx24
            refine k_icmp_le cx 80 dX11_far_72 (by decide) (fun c25 => ?_) (fun c25 => ?_)
            · have h := ite_t h c25
              refine k_iload cx 6 dX11_far_80 rfl ?_
              refine k_sub [3, 4, 5, 2, 1, 7] rfl ?_
              obtain rfl := Option.some.inj h
              exact Kx24
            · have h := ite_f h c25
              refine k_iload cx 0 dX11_far_75 rfl ?_
              refine k_goto cx 82 dX11_far_77 (by decide) ?_
              refine k_sub [3, 4, 5, 2, 1, 7] rfl ?_
              obtain rfl := Option.some.inj h
              exact Kx24
          have h := hxx14
          refine k_icmp_ne cx 46 dX11_far_38 (by decide) (fun c15 => ?_) (fun c15 => ?_)
          · have h := ite_t h c15
            refine k_iload_n cx 3 dX11_far_46 rfl rfl ?_
            refine k_sub [0, 1, 2, 4, 5, 6] rfl ?_
            obtain rfl := Option.some.inj h
            exact Kx14
          · have h := ite_f h c15
            refine k_iload cx 6 dX11_far_41 rfl ?_
            refine k_goto cx 47 dX11_far_43 (by decide) ?_
            refine k_sub [0, 1, 2, 4, 5, 6] rfl ?_
            obtain rfl := Option.some.inj h
            exact Kx14
  refine k_sub [4, 5, 6, 3, 2, 1, 0] rfl ?_
  exact KLx2 FU _ _ _ _ hxx2
set_option maxRecDepth 100000 in
set_option maxHeartbeats 4000000 in
theorem w_X11_nearest {Γ : GE} {σ : St} {t : Nat} {p1 : Int32} {ρ : Int32} (hk : hpK σ t = 11) (h : f_X11_nearest σ t p1 = some ρ) : Ct Γ yX11_nearest cX11_nearest 4 (some .int) 3 74 [va_rf (some t), .int p1] σ (some (.int ρ)) σ := by
  refine ct_intro (own := RX11) (L0 := [(0, va_rf (some t)), (1, .int p1)]) (by decide +kernel) rfl (by simp [lg_sl, cat_rf, cat_i, cat_j]) (by simp [lv_args, cat_rf, cat_i, cat_j]) ?_
  intro p l e s m args below meth c hr hlk hin cx
  have hk0 := dn_eq hk
  unfold f_X11_nearest at h
  refine k_iconst cx 0 dX11_nearest_0 (by decide) ?_
  refine k_istore_n cx (i := 2) [(2, .int 0), (0, va_rf (some t)), (1, .int p1)] dX11_nearest_1 rfl (by decide) (by simp [cat_rf, cat_i, cat_j]) ?_
  refine k_iconst cx 1 dX11_nearest_2 (by decide) ?_
  refine k_istore_n cx (i := 3) [(3, .int 1), (2, .int 0), (0, va_rf (some t)), (1, .int p1)] dX11_nearest_3 rfl (by decide) (by simp [cat_rf, cat_i, cat_j]) ?_
  obtain ⟨x2, hxx2, h⟩ := bind_ok h
  have Kx2 : Og p l e s m args below meth c Γ 4 3 74 σ (some (.int ρ)) σ 36 [(2, .int x2)] [] σ := by
    refine k_iload_n cx 0 dX11_nearest_36 rfl rfl ?_
    have h := Option.some.inj h
    exact k_iret cx hr hlk (by rw [← h]) rfl dX11_nearest_37
  have KLx2 : ∀ (n : Nat) (v2 : Int32) (v3 : Int32), LX11_nearest_4 n σ t p1 v2 v3 = some x2 → Og p l e s m args below meth c Γ 4 3 74 σ (some (.int ρ)) σ 4 [(0, va_rf (some t)), (1, .int p1), (2, .int v2), (3, .int v3)] [] σ := by
    intro n
    induction n with
    | zero => intro _ _ h; cases (show (none : Option _) = some x2 from h)
    | succ n ihx2 =>
      intro v2 v3 h
      rw [LX11_nearest_4] at h
      refine k_iload_n cx 3 dX11_nearest_4 rfl rfl ?_
      refine k_iconst cx 4 dX11_nearest_5 (by decide) ?_
      refine k_icmp_ge cx 36 dX11_nearest_6 (by decide) (fun c3 => ?_) (fun c3 => ?_)
      · have h := ite_t h c3
        refine k_sub [2] rfl ?_
        obtain rfl := Option.some.inj h
        exact Kx2
      · have h := ite_f h c3
        refine k_aload_n cx 0 dX11_nearest_9 rfl rfl ?_
        refine k_iload_n cx 1 dX11_nearest_10 rfl rfl ?_
        refine k_iload_n cx 3 dX11_nearest_11 rfl rfl ?_
        obtain ⟨q4, g5, h⟩ := bind_ok h
        refine k_callV cx iv_X11_219 (ci := 11) rfl (by decide) (w_X11_far (dn_some hk0).2 g5) hk0 (As := [.int p1, .int v3]) rfl rfl ⟨Nat.le_of_ble_eq_true rfl, Nat.le_of_ble_eq_true rfl⟩ (by simp [cat_rf, cat_i, cat_j]) dX11_nearest_12 ?_
        refine k_aload_n cx 0 dX11_nearest_15 rfl rfl ?_
        refine k_iload_n cx 1 dX11_nearest_16 rfl rfl ?_
        refine k_iload_n cx 2 dX11_nearest_17 rfl rfl ?_
        obtain ⟨q6, g7, h⟩ := bind_ok h
        refine k_callV cx iv_X11_219 (ci := 11) rfl (by decide) (w_X11_far (dn_some hk0).2 g7) hk0 (As := [.int p1, .int v2]) rfl rfl ⟨Nat.le_of_ble_eq_true rfl, Nat.le_of_ble_eq_true rfl⟩ (by simp [cat_rf, cat_i, cat_j]) dX11_nearest_18 ?_
        obtain ⟨x8, hxx8, h⟩ := bind_ok h
        have Kx8 : Og p l e s m args below meth c Γ 4 3 74 σ (some (.int ρ)) σ 29 [(0, va_rf (some t)), (1, .int p1), (3, .int v3)] [.int x8] σ := by
          refine k_istore_n cx (i := 2) [(2, .int x8), (0, va_rf (some t)), (1, .int p1), (3, .int v3)] dX11_nearest_29 rfl (by decide) (by simp [cat_rf, cat_i, cat_j]) ?_
          refine k_iinc cx 3 [(3, .int (v3 + 1)), (2, .int x8), (0, va_rf (some t)), (1, .int p1)] (v3 + 1) dX11_nearest_30 rfl rfl (by decide) (by simp [cat_rf, cat_i, cat_j]) ?_
          refine k_goto cx 4 dX11_nearest_33 (by decide) ?_
          refine k_sub [2, 3, 1, 0] rfl ?_
          exact ihx2 _ _ h
        have h := hxx8
        refine k_icmp_ge cx 28 dX11_nearest_21 (by decide) (fun c9 => ?_) (fun c9 => ?_)
        · have h := ite_t h c9
          refine k_iload_n cx 2 dX11_nearest_28 rfl rfl ?_
          refine k_sub [0, 1, 3] rfl ?_
          obtain rfl := Option.some.inj h
          exact Kx8
        · have h := ite_f h c9
          refine k_iload_n cx 3 dX11_nearest_24 rfl rfl ?_
          refine k_goto cx 29 dX11_nearest_25 (by decide) ?_
          refine k_sub [0, 1, 3] rfl ?_
          obtain rfl := Option.some.inj h
          exact Kx8
  refine k_sub [2, 3, 1, 0] rfl ?_
  exact KLx2 FU _ _ hxx2
set_option maxRecDepth 100000 in
set_option maxHeartbeats 4000000 in
theorem w_X11_distance {Γ : GE} {σ : St} {t : Nat} {p1 : Int32} {ρ : Int32 × St} (hk : hpK σ t = 11) (h : f_X11_distance σ t p1 = some ρ) : Ct Γ yX11_distance cX11_distance 2 (some .int) 5 114 [va_rf (some t), .int p1] σ (some (.int ρ.1)) ρ.2 := by
  refine ct_intro (own := RX11) (L0 := [(0, va_rf (some t)), (1, .int p1)]) (by decide +kernel) rfl (by simp [lg_sl, cat_rf, cat_i, cat_j]) (by simp [lv_args, cat_rf, cat_i, cat_j]) ?_
  intro p l e s m args below meth c hr hlk hin cx
  have hk0 := dn_eq hk
  unfold f_X11_distance at h
  refine k_iload_n cx 1 dX11_distance_0 rfl rfl ?_
  refine k_iconst cx 0 dX11_distance_1 (by decide) ?_
  refine k_aload_n cx 0 dX11_distance_2 rfl rfl ?_
  obtain ⟨q1, g2, h⟩ := bind_ok h
  refine k_callV cx iv_X11_137 (ci := 11) rfl (by decide) (w_X11_stanzas (dn_some hk0).2 g2) hk0 (As := []) rfl rfl ⟨Nat.le_of_ble_eq_true rfl, Nat.le_of_ble_eq_true rfl⟩ (by simp [cat_rf, cat_i, cat_j]) dX11_distance_3 ?_
  refine k_iconst cx 1 dX11_distance_6 (by decide) ?_
  refine k_isub cx dX11_distance_7 ?_
  obtain ⟨q3, g4, h⟩ := bind_ok h
  refine k_callS cx iv_X11_62 (w_X11_in g4) (As := [.int p1, .int 0, .int (q1 - 1)]) rfl rfl ⟨Nat.le_of_ble_eq_true rfl, Nat.le_of_ble_eq_true rfl⟩ (by simp [cat_rf, cat_i, cat_j]) dX11_distance_8 ?_
  refine k_if_ne cx 17 dX11_distance_11 (by decide) (fun c5 => ?_) (fun c5 => ?_)
  · have h := ite_t h c5
    refine k_aload_n cx 0 dX11_distance_17 rfl rfl ?_
    obtain ⟨q6, g7, h⟩ := bind_ok h
    refine k_callV cx iv_X11_110 (ci := 11) rfl (by decide) (w_X11_readsShape (dn_some hk0).2 g7) hk0 (As := []) rfl rfl ⟨Nat.le_of_ble_eq_true rfl, Nat.le_of_ble_eq_true rfl⟩ (by simp [cat_rf, cat_i, cat_j]) dX11_distance_18 ?_
    refine k_aload_n cx 0 dX11_distance_21 rfl rfl ?_
    obtain ⟨a8, g9, h⟩ := bind_ok h
    refine q_getI cx fl_X11_83 g9 dX11_distance_22 ?_
    refine k_iconst cx (-1) dX11_distance_25 (by decide) ?_
    refine k_icmp_eq cx 38 dX11_distance_26 (by decide) (fun c10 => ?_) (fun c10 => ?_)
    · have h := ite_t h c10
      refine k_aload_n cx 0 dX11_distance_38 rfl rfl ?_
      obtain ⟨q11, g12, h⟩ := bind_ok h
      refine k_callV cx iv_X11_188 (ci := 11) rfl (by decide) (w_X11_draws (dn_some g9).2 g12) g9 (As := []) rfl rfl ⟨Nat.le_of_ble_eq_true rfl, Nat.le_of_ble_eq_true rfl⟩ (by simp [cat_rf, cat_i, cat_j]) dX11_distance_39 ?_
      refine k_aload_n cx 0 dX11_distance_42 rfl rfl ?_
      refine k_iload_n cx 1 dX11_distance_43 rfl rfl ?_
      refine k_aload_n cx 0 dX11_distance_44 rfl rfl ?_
      obtain ⟨a13, g14, h⟩ := bind_ok h
      refine q_getI cx fl_X11_107 g14 dX11_distance_45 ?_
      obtain ⟨q15, g16, h⟩ := bind_ok h
      refine k_callV cx iv_X11_219 (ci := 11) rfl (by decide) (w_X11_far (dn_some g14).2 g16) g14 (As := [.int p1, .int (hpI q11 360 a13)]) rfl rfl ⟨Nat.le_of_ble_eq_true rfl, Nat.le_of_ble_eq_true rfl⟩ (by simp [cat_rf, cat_i, cat_j]) dX11_distance_48 ?_
      have h := Option.some.inj h
      exact k_iret cx hr hlk (by rw [← h]) (by rw [← h]) dX11_distance_51
    · have h := ite_f h c10
      refine k_sipush cx (-2000) dX11_distance_29 (by decide) ?_
      refine k_aload_n cx 0 dX11_distance_32 rfl rfl ?_
      refine q_getI cx fl_X11_83 g9 dX11_distance_33 ?_
      refine k_isub cx dX11_distance_36 ?_
      have h := Option.some.inj h
      exact k_iret cx hr hlk (by rw [← h]) (by rw [← h]) dX11_distance_37
  · have h := ite_f h c5
    refine k_bipush cx (-2) dX11_distance_14 (by decide) ?_
    have h := Option.some.inj h
    exact k_iret cx hr hlk (by rw [← h]) (by rw [← h]) dX11_distance_16
set_option maxRecDepth 100000 in
set_option maxHeartbeats 4000000 in
theorem w_X11_shape {Γ : GE} {σ : St} {t : Nat} {p1 : Int32} {ρ : Int32 × St} (hk : hpK σ t = 11) (h : f_X11_shape σ t p1 = some ρ) : Ct Γ yX11_shape cX11_shape 2 (some .int) 5 114 [va_rf (some t), .int p1] σ (some (.int ρ.1)) ρ.2 := by
  refine ct_intro (own := RX11) (L0 := [(0, va_rf (some t)), (1, .int p1)]) (by decide +kernel) rfl (by simp [lg_sl, cat_rf, cat_i, cat_j]) (by simp [lv_args, cat_rf, cat_i, cat_j]) ?_
  intro p l e s m args below meth c hr hlk hin cx
  have hk0 := dn_eq hk
  unfold f_X11_shape at h
  refine k_iload_n cx 1 dX11_shape_0 rfl rfl ?_
  refine k_iconst cx 0 dX11_shape_1 (by decide) ?_
  refine k_aload_n cx 0 dX11_shape_2 rfl rfl ?_
  obtain ⟨q1, g2, h⟩ := bind_ok h
  refine k_callV cx iv_X11_137 (ci := 11) rfl (by decide) (w_X11_stanzas (dn_some hk0).2 g2) hk0 (As := []) rfl rfl ⟨Nat.le_of_ble_eq_true rfl, Nat.le_of_ble_eq_true rfl⟩ (by simp [cat_rf, cat_i, cat_j]) dX11_shape_3 ?_
  refine k_iconst cx 1 dX11_shape_6 (by decide) ?_
  refine k_isub cx dX11_shape_7 ?_
  obtain ⟨q3, g4, h⟩ := bind_ok h
  refine k_callS cx iv_X11_62 (w_X11_in g4) (As := [.int p1, .int 0, .int (q1 - 1)]) rfl rfl ⟨Nat.le_of_ble_eq_true rfl, Nat.le_of_ble_eq_true rfl⟩ (by simp [cat_rf, cat_i, cat_j]) dX11_shape_8 ?_
  refine k_if_ne cx 17 dX11_shape_11 (by decide) (fun c5 => ?_) (fun c5 => ?_)
  · have h := ite_t h c5
    refine k_aload_n cx 0 dX11_shape_17 rfl rfl ?_
    obtain ⟨q6, g7, h⟩ := bind_ok h
    refine k_callV cx iv_X11_188 (ci := 11) rfl (by decide) (w_X11_draws (dn_some hk0).2 g7) hk0 (As := []) rfl rfl ⟨Nat.le_of_ble_eq_true rfl, Nat.le_of_ble_eq_true rfl⟩ (by simp [cat_rf, cat_i, cat_j]) dX11_shape_18 ?_
    refine k_aload_n cx 0 dX11_shape_21 rfl rfl ?_
    refine k_iload_n cx 1 dX11_shape_22 rfl rfl ?_
    obtain ⟨a8, g9, h⟩ := bind_ok h
    obtain ⟨q10, g11, h⟩ := bind_ok h
    refine k_callV cx iv_X11_222 (ci := 11) rfl (by decide) (w_X11_nearest (dn_some g9).2 g11) g9 (As := [.int p1]) rfl rfl ⟨Nat.le_of_ble_eq_true rfl, Nat.le_of_ble_eq_true rfl⟩ (by simp [cat_rf, cat_i, cat_j]) dX11_shape_23 ?_
    have h := Option.some.inj h
    exact k_iret cx hr hlk (by rw [← h]) (by rw [← h]) dX11_shape_26
  · have h := ite_f h c5
    refine k_bipush cx (-2) dX11_shape_14 (by decide) ?_
    have h := Option.some.inj h
    exact k_iret cx hr hlk (by rw [← h]) (by rw [← h]) dX11_shape_16
set_option maxRecDepth 100000 in
set_option maxHeartbeats 4000000 in
theorem w_X11_overRows {Γ : GE} {σ : St} {t : Nat} {ρ : Int32} (hk : hpK σ t = 11) (h : f_X11_overRows σ t = some ρ) : Ct Γ yX11_overRows cX11_overRows 1 (some .int) 0 0 [va_rf (some t)] σ (some (.int ρ)) σ := by
  refine ct_intro (own := RX11) (L0 := [(0, va_rf (some t))]) (by decide +kernel) rfl (by simp [lg_sl, cat_rf, cat_i, cat_j]) (by simp [lv_args, cat_rf, cat_i, cat_j]) ?_
  intro p l e s m args below meth c hr hlk hin cx
  have hk0 := dn_eq hk
  unfold f_X11_overRows at h
  refine k_aload_n cx 0 dX11_overRows_0 rfl rfl ?_
  refine q_getI cx fl_X11_150 hk0 dX11_overRows_1 ?_
  refine k_aload_n cx 0 dX11_overRows_4 rfl rfl ?_
  refine q_getR cx fl_X11_7 hk0 dX11_overRows_5 ?_
  refine k_sipush cx 2040 dX11_overRows_8 (by decide) ?_
  obtain ⟨a1, g2, h⟩ := bind_ok h
  obtain ⟨j3, g4, h⟩ := bind_ok h
  refine k_iald cx g2 g4 dX11_overRows_11 ?_
  refine k_isub cx dX11_overRows_12 ?_
  have h := Option.some.inj h
  exact k_iret cx hr hlk (by rw [← h]) rfl dX11_overRows_13
set_option maxRecDepth 100000 in
set_option maxHeartbeats 4000000 in
theorem w_X11_withinRows {Γ : GE} {σ : St} {t : Nat} {ρ : Int32} (hk : hpK σ t = 11) (h : f_X11_withinRows σ t = some ρ) : Ct Γ yX11_withinRows cX11_withinRows 3 (some .int) 0 0 [va_rf (some t)] σ (some (.int ρ)) σ := by
  refine ct_intro (own := RX11) (L0 := [(0, va_rf (some t))]) (by decide +kernel) rfl (by simp [lg_sl, cat_rf, cat_i, cat_j]) (by simp [lv_args, cat_rf, cat_i, cat_j]) ?_
  intro p l e s m args below meth c hr hlk hin cx
  have hk0 := dn_eq hk
  unfold f_X11_withinRows at h
  refine k_iconst cx 0 dX11_withinRows_0 (by decide) ?_
  refine k_istore_n cx (i := 1) [(1, .int 0), (0, va_rf (some t))] dX11_withinRows_1 rfl (by decide) (by simp [cat_rf, cat_i, cat_j]) ?_
  refine k_iconst cx 0 dX11_withinRows_2 (by decide) ?_
  refine k_istore_n cx (i := 2) [(2, .int 0), (1, .int 0), (0, va_rf (some t))] dX11_withinRows_3 rfl (by decide) (by simp [cat_rf, cat_i, cat_j]) ?_
  obtain ⟨x2, hxx2, h⟩ := bind_ok h
  have Kx2 : Og p l e s m args below meth c Γ 3 0 0 σ (some (.int ρ)) σ 27 [(1, .int x2)] [] σ := by
    refine k_iload_n cx 0 dX11_withinRows_27 rfl rfl ?_
    have h := Option.some.inj h
    exact k_iret cx hr hlk (by rw [← h]) rfl dX11_withinRows_28
  have KLx2 : ∀ (n : Nat) (v1 : Int32) (v2 : Int32), LX11_withinRows_4 n σ t v1 v2 = some x2 → Og p l e s m args below meth c Γ 3 0 0 σ (some (.int ρ)) σ 4 [(0, va_rf (some t)), (1, .int v1), (2, .int v2)] [] σ := by
    intro n
    induction n with
    | zero => intro _ _ h; cases (show (none : Option _) = some x2 from h)
    | succ n ihx2 =>
      intro v1 v2 h
      rw [LX11_withinRows_4] at h
      refine k_iload_n cx 2 dX11_withinRows_4 rfl rfl ?_
      refine k_aload_n cx 0 dX11_withinRows_5 rfl rfl ?_
      refine q_getI cx fl_X11_150 hk0 dX11_withinRows_6 ?_
      refine k_icmp_ge cx 27 dX11_withinRows_9 (by decide) (fun c3 => ?_) (fun c3 => ?_)
      · have h := ite_t h c3
        refine k_sub [1] rfl ?_
        obtain rfl := Option.some.inj h
        exact Kx2
      · have h := ite_f h c3
        refine k_iload_n cx 1 dX11_withinRows_12 rfl rfl ?_
        refine k_aload_n cx 0 dX11_withinRows_13 rfl rfl ?_
        refine q_getR cx fl_X11_34 hk0 dX11_withinRows_14 ?_
        refine k_iload_n cx 2 dX11_withinRows_17 rfl rfl ?_
        obtain ⟨a4, g5, h⟩ := bind_ok h
        obtain ⟨j6, g7, h⟩ := bind_ok h
        refine k_iald cx g5 g7 dX11_withinRows_18 ?_
        refine k_iadd cx dX11_withinRows_19 ?_
        refine k_istore_n cx (i := 1) [(1, .int (v1 + (hpA σ a4 j6))), (0, va_rf (some t)), (2, .int v2)] dX11_withinRows_20 rfl (by decide) (by simp [cat_rf, cat_i, cat_j]) ?_
        refine k_iinc cx 2 [(2, .int (v2 + 1)), (1, .int (v1 + (hpA σ a4 j6))), (0, va_rf (some t))] (v2 + 1) dX11_withinRows_21 rfl rfl (by decide) (by simp [cat_rf, cat_i, cat_j]) ?_
        refine k_goto cx 4 dX11_withinRows_24 (by decide) ?_
        refine k_sub [2, 1, 0] rfl ?_
        exact ihx2 _ _ h
  refine k_sub [2, 1, 0] rfl ?_
  exact KLx2 FU _ _ hxx2
set_option maxRecDepth 100000 in
set_option maxHeartbeats 4000000 in
theorem w_X11_bestWidth {Γ : GE} {σ : St} {t : Nat} {p1 : Int32} {ρ : Int32 × St} (hk : hpK σ t = 11) (h : f_X11_bestWidth σ t p1 = some ρ) : Ct Γ yX11_bestWidth cX11_bestWidth 8 (some .int) 5 114 [va_rf (some t), .int p1] σ (some (.int ρ.1)) ρ.2 := by
  refine ct_intro (own := RX11) (L0 := [(0, va_rf (some t)), (1, .int p1)]) (by decide +kernel) rfl (by simp [lg_sl, cat_rf, cat_i, cat_j]) (by simp [lv_args, cat_rf, cat_i, cat_j]) ?_
  intro p l e s m args below meth c hr hlk hin cx
  have hk0 := dn_eq hk
  unfold f_X11_bestWidth at h
  refine k_iload_n cx 1 dX11_bestWidth_0 rfl rfl ?_
  refine k_iconst cx 0 dX11_bestWidth_1 (by decide) ?_
  refine k_iconst cx 2 dX11_bestWidth_2 (by decide) ?_
  obtain ⟨q1, g2, h⟩ := bind_ok h
  refine k_callS cx iv_X11_62 (w_X11_in g2) (As := [.int p1, .int 0, .int 2]) rfl rfl ⟨Nat.le_of_ble_eq_true rfl, Nat.le_of_ble_eq_true rfl⟩ (by simp [cat_rf, cat_i, cat_j]) dX11_bestWidth_3 ?_
  refine k_if_ne cx 12 dX11_bestWidth_6 (by decide) (fun c3 => ?_) (fun c3 => ?_)
  · have h := ite_t h c3
    refine k_aload_n cx 0 dX11_bestWidth_12 rfl rfl ?_
    refine q_getR cx fl_X11_7 hk0 dX11_bestWidth_13 ?_
    refine k_sipush cx 2040 dX11_bestWidth_16 (by decide) ?_
    obtain ⟨a4, g5, h⟩ := bind_ok h
    obtain ⟨j6, g7, h⟩ := bind_ok h
    refine k_iald cx g5 g7 dX11_bestWidth_19 ?_
    refine k_if_ne cx 26 dX11_bestWidth_20 (by decide) (fun c8 => ?_) (fun c8 => ?_)
    · have h := ite_t h c8
      refine k_aload_n cx 0 dX11_bestWidth_26 rfl rfl ?_
      refine q_getR cx fl_X11_7 hk0 dX11_bestWidth_27 ?_
      refine k_sipush cx 2041 dX11_bestWidth_30 (by decide) ?_
      obtain ⟨j9, g10, h⟩ := bind_ok h
      refine k_iald cx g5 g10 dX11_bestWidth_33 ?_
      refine k_istore_n cx (i := 2) [(2, .int (hpA σ a4 j9)), (0, va_rf (some t)), (1, .int p1)] dX11_bestWidth_34 rfl (by decide) (by simp [cat_rf, cat_i, cat_j]) ?_
      refine k_iconst cx (-1) dX11_bestWidth_35 (by decide) ?_
      refine k_istore_n cx (i := 3) [(3, .int (-1)), (2, .int (hpA σ a4 j9)), (0, va_rf (some t)), (1, .int p1)] dX11_bestWidth_36 rfl (by decide) (by simp [cat_rf, cat_i, cat_j]) ?_
      refine k_iconst cx 0 dX11_bestWidth_37 (by decide) ?_
      refine k_istore cx [(4, .int 0), (3, .int (-1)), (2, .int (hpA σ a4 j9)), (0, va_rf (some t)), (1, .int p1)] dX11_bestWidth_38 (by decide) (by simp [cat_rf, cat_i, cat_j]) ?_
      refine k_bipush cx 12 dX11_bestWidth_40 (by decide) ?_
      refine k_istore cx [(5, .int 12), (4, .int 0), (3, .int (-1)), (2, .int (hpA σ a4 j9)), (0, va_rf (some t)), (1, .int p1)] dX11_bestWidth_42 (by decide) (by simp [cat_rf, cat_i, cat_j]) ?_
      obtain ⟨x12, hxx12, h⟩ := bind_ok h
      have Kx12 : Og p l e s m args below meth c Γ 8 5 114 σ (some (.int ρ.1)) ρ.2 145 [(0, va_rf (some t)), (2, .int (hpA σ a4 j9)), (3, .int x12.1)] [] x12.2 := by
        refine k_aload_n cx 0 dX11_bestWidth_145 rfl rfl ?_
        obtain ⟨a44, g45, h⟩ := bind_ok h
        refine q_getR cx fl_X11_7 g45 dX11_bestWidth_146 ?_
        refine k_sipush cx 2041 dX11_bestWidth_149 (by decide) ?_
        refine k_iload_n cx 1 dX11_bestWidth_152 rfl rfl ?_
        obtain ⟨a46, g47, h⟩ := bind_ok h
        obtain ⟨j48, g49, h⟩ := bind_ok h
        refine k_iast cx g47 g49 dX11_bestWidth_153 ?_
        refine k_iload_n cx 2 dX11_bestWidth_154 rfl rfl ?_
        have h := Option.some.inj h
        exact k_iret cx hr hlk (by rw [← h]) (by rw [← h]) dX11_bestWidth_155
      have KLx12 : ∀ (n : Nat) (v3 : Int32) (v4 : Int32) (v5 : Int32) (τ : St), LX11_bestWidth_44 n t p1 (hpA σ a4 j9) v3 v4 v5 τ = some x12 → Og p l e s m args below meth c Γ 8 5 114 σ (some (.int ρ.1)) ρ.2 44 [(0, va_rf (some t)), (1, .int p1), (2, .int (hpA σ a4 j9)), (3, .int v3), (4, .int v4), (5, .int v5)] [] τ := by
        intro n
        induction n with
        | zero => intro _ _ _ _ h; cases (show (none : Option _) = some x12 from h)
        | succ n ihx12 =>
          intro v3 v4 v5 τ h
          rw [LX11_bestWidth_44] at h
          refine k_iload cx 5 dX11_bestWidth_44 rfl ?_
          refine k_bipush cx 60 dX11_bestWidth_46 (by decide) ?_
          refine k_icmp_gt cx 145 dX11_bestWidth_48 (by decide) (fun c13 => ?_) (fun c13 => ?_)
          · have h := ite_t h c13
            refine k_sub [0, 2, 3] rfl ?_
            obtain rfl := Option.some.inj h
            exact Kx12
          · have h := ite_f h c13
            refine k_aload_n cx 0 dX11_bestWidth_51 rfl rfl ?_
            obtain ⟨a14, g15, h⟩ := bind_ok h
            refine q_getR cx fl_X11_7 g15 dX11_bestWidth_52 ?_
            refine k_sipush cx 2041 dX11_bestWidth_55 (by decide) ?_
            refine k_iload cx 5 dX11_bestWidth_58 rfl ?_
            obtain ⟨a16, g17, h⟩ := bind_ok h
            obtain ⟨j18, g19, h⟩ := bind_ok h
            refine k_iast cx g17 g19 dX11_bestWidth_60 ?_
            refine k_aload_n cx 0 dX11_bestWidth_61 rfl rfl ?_
            obtain ⟨q20, g21, h⟩ := bind_ok h
            refine k_callV cx iv_X11_188 (ci := 11) rfl (by decide) (w_X11_draws (dn_some g15).2 g21) g15 (As := []) rfl rfl ⟨Nat.le_of_ble_eq_true rfl, Nat.le_of_ble_eq_true rfl⟩ (by simp [cat_rf, cat_i, cat_j]) dX11_bestWidth_62 ?_
            refine k_iload_n cx 1 dX11_bestWidth_65 rfl rfl ?_
            obtain ⟨x22, hxx22, h⟩ := bind_ok h
            have Kx22 : Og p l e s m args below meth c Γ 8 5 114 σ (some (.int ρ.1)) ρ.2 92 [(0, va_rf (some t)), (1, .int p1), (2, .int (hpA σ a4 j9)), (3, .int v3), (4, .int v4), (5, .int v5)] [.int x22] q20 := by
              refine k_istore cx [(6, .int x22), (0, va_rf (some t)), (1, .int p1), (2, .int (hpA σ a4 j9)), (3, .int v3), (4, .int v4), (5, .int v5)] dX11_bestWidth_92 (by decide) (by simp [cat_rf, cat_i, cat_j]) ?_
              refine k_iload_n cx 4 dX11_bestWidth_94 rfl rfl ?_
              refine k_iconst cx (-1) dX11_bestWidth_95 (by decide) ?_
              obtain ⟨x37, hxx37, h⟩ := bind_ok h
              have Kx37 : Og p l e s m args below meth c Γ 8 5 114 σ (some (.int ρ.1)) ρ.2 111 [(0, va_rf (some t)), (1, .int p1), (2, .int (hpA σ a4 j9)), (3, .int v3), (4, .int v4), (5, .int v5), (6, .int x22)] [.int x37] q20 := by
                refine k_istore cx [(7, .int x37), (0, va_rf (some t)), (1, .int p1), (2, .int (hpA σ a4 j9)), (3, .int v3), (4, .int v4), (5, .int v5), (6, .int x22)] dX11_bestWidth_111 (by decide) (by simp [cat_rf, cat_i, cat_j]) ?_
                refine k_iload cx 0 dX11_bestWidth_113 rfl ?_
                obtain ⟨x40, hxx40, h⟩ := bind_ok h
                have Kx40 : Og p l e s m args below meth c Γ 8 5 114 σ (some (.int ρ.1)) ρ.2 124 [(0, va_rf (some t)), (1, .int p1), (2, .int (hpA σ a4 j9)), (4, .int v4), (5, .int v5), (6, .int x22), (7, .int x37)] [.int x40] q20 := by
                  refine k_istore_n cx (i := 3) [(3, .int x40), (0, va_rf (some t)), (1, .int p1), (2, .int (hpA σ a4 j9)), (4, .int v4), (5, .int v5), (6, .int x22), (7, .int x37)] dX11_bestWidth_124 rfl (by decide) (by simp [cat_rf, cat_i, cat_j]) ?_
                  refine k_iload cx 7 dX11_bestWidth_125 rfl ?_
                  obtain ⟨x42, hxx42, h⟩ := bind_ok h
                  have Kx42 : Og p l e s m args below meth c Γ 8 5 114 σ (some (.int ρ.1)) ρ.2 137 [(0, va_rf (some t)), (1, .int p1), (2, .int (hpA σ a4 j9)), (3, .int x40), (5, .int v5)] [.int x42] q20 := by
                    refine k_istore cx [(4, .int x42), (0, va_rf (some t)), (1, .int p1), (2, .int (hpA σ a4 j9)), (3, .int x40), (5, .int v5)] dX11_bestWidth_137 (by decide) (by simp [cat_rf, cat_i, cat_j]) ?_
                    refine k_iinc cx 5 [(5, .int (v5 + 1)), (4, .int x42), (0, va_rf (some t)), (1, .int p1), (2, .int (hpA σ a4 j9)), (3, .int x40)] (v5 + 1) dX11_bestWidth_139 rfl rfl (by decide) (by simp [cat_rf, cat_i, cat_j]) ?_
                    refine k_goto cx 44 dX11_bestWidth_142 (by decide) ?_
                    refine k_sub [2, 3, 4, 5, 1, 0] rfl ?_
                    exact ihx12 _ _ _ _ h
                  have h := hxx42
                  refine k_if_eq cx 135 dX11_bestWidth_127 (by decide) (fun c43 => ?_) (fun c43 => ?_)
                  · have h := ite_t h c43
                    refine k_iload cx 4 dX11_bestWidth_135 rfl ?_
                    refine k_sub [1, 2, 3, 0, 5] rfl ?_
                    obtain rfl := Option.some.inj h
                    exact Kx42
                  · have h := ite_f h c43
                    refine k_iload cx 6 dX11_bestWidth_130 rfl ?_
                    refine k_goto cx 137 dX11_bestWidth_132 (by decide) ?_
                    refine k_sub [1, 2, 3, 0, 5] rfl ?_
                    obtain rfl := Option.some.inj h
                    exact Kx42
                have h := hxx40
                refine k_if_eq cx 123 dX11_bestWidth_115 (by decide) (fun c41 => ?_) (fun c41 => ?_)
                · have h := ite_t h c41
                  refine k_iload_n cx 4 dX11_bestWidth_123 rfl rfl ?_
                  refine k_sub [1, 2, 3, 5, 6, 7, 0] rfl ?_
                  obtain rfl := Option.some.inj h
                  exact Kx40
                · have h := ite_f h c41
                  refine k_iload cx 6 dX11_bestWidth_118 rfl ?_
                  refine k_goto cx 124 dX11_bestWidth_120 (by decide) ?_
                  refine k_sub [1, 2, 3, 5, 6, 7, 0] rfl ?_
                  obtain rfl := Option.some.inj h
                  exact Kx40
              have h := hxx37
              refine k_icmp_eq cx 106 dX11_bestWidth_96 (by decide) (fun c38 => ?_) (fun c38 => ?_)
              · have h := ite_t h c38
                refine k_iconst cx 1 dX11_bestWidth_106 (by decide) ?_
                refine k_goto cx 111 dX11_bestWidth_107 (by decide) ?_
                refine k_sub [1, 2, 3, 4, 5, 6, 0] rfl ?_
                obtain rfl := Option.some.inj h
                exact Kx37
              · have h := ite_f h c38
                refine k_iload cx 0 dX11_bestWidth_99 rfl ?_
                refine k_iload cx 5 dX11_bestWidth_101 rfl ?_
                refine k_icmp_ge cx 110 dX11_bestWidth_103 (by decide) (fun c39 => ?_) (fun c39 => ?_)
                · have h := ite_t h c39
                  refine k_iconst cx 0 dX11_bestWidth_110 (by decide) ?_
                  refine k_sub [1, 2, 3, 4, 5, 6, 0] rfl ?_
                  obtain rfl := Option.some.inj h
                  exact Kx37
                · have h := ite_f h c39
                  refine k_iconst cx 1 dX11_bestWidth_106 (by decide) ?_
                  refine k_goto cx 111 dX11_bestWidth_107 (by decide) ?_
                  refine k_sub [1, 2, 3, 4, 5, 6, 0] rfl ?_
                  obtain rfl := Option.some.inj h
                  exact Kx37
            have h := hxx22
            refine k_if_ne cx 76 dX11_bestWidth_66 (by decide) (fun c23 => ?_) (fun c23 => ?_)
            · have h := ite_t h c23
              refine k_iload_n cx 1 dX11_bestWidth_76 rfl rfl ?_
              refine k_iconst cx 1 dX11_bestWidth_77 (by decide) ?_
              refine k_icmp_ne cx 88 dX11_bestWidth_78 (by decide) (fun c24 => ?_) (fun c24 => ?_)
              · have h := ite_t h c24
                refine k_aload_n cx 0 dX11_bestWidth_88 rfl rfl ?_
                obtain ⟨a25, g26, h⟩ := bind_ok h
                obtain ⟨q27, g28, h⟩ := bind_ok h
                refine k_callV cx iv_X11_228 (ci := 11) rfl (by decide) (w_X11_withinRows (dn_some g26).2 g28) g26 (As := []) rfl rfl ⟨Nat.le_of_ble_eq_true rfl, Nat.le_of_ble_eq_true rfl⟩ (by simp [cat_rf, cat_i, cat_j]) dX11_bestWidth_89 ?_
                obtain rfl := Option.some.inj h
                exact Kx22
              · have h := ite_f h c24
                refine k_aload_n cx 0 dX11_bestWidth_81 rfl rfl ?_
                obtain ⟨a29, g30, h⟩ := bind_ok h
                obtain ⟨q31, g32, h⟩ := bind_ok h
                refine k_callV cx iv_X11_225 (ci := 11) rfl (by decide) (w_X11_overRows (dn_some g30).2 g32) g30 (As := []) rfl rfl ⟨Nat.le_of_ble_eq_true rfl, Nat.le_of_ble_eq_true rfl⟩ (by simp [cat_rf, cat_i, cat_j]) dX11_bestWidth_82 ?_
                refine k_goto cx 92 dX11_bestWidth_85 (by decide) ?_
                obtain rfl := Option.some.inj h
                exact Kx22
            · have h := ite_f h c23
              refine k_aload_n cx 0 dX11_bestWidth_69 rfl rfl ?_
              obtain ⟨a33, g34, h⟩ := bind_ok h
              obtain ⟨q35, g36, h⟩ := bind_ok h
              refine k_callV cx iv_X11_200 (ci := 11) rfl (by decide) (w_X11_pages (dn_some g34).2 g36) g34 (As := []) rfl rfl ⟨Nat.le_of_ble_eq_true rfl, Nat.le_of_ble_eq_true rfl⟩ (by simp [cat_rf, cat_i, cat_j]) dX11_bestWidth_70 ?_
              refine k_goto cx 92 dX11_bestWidth_73 (by decide) ?_
              obtain rfl := Option.some.inj h
              exact Kx22
      refine k_sub [4, 5, 3, 2, 1, 0] rfl ?_
      exact KLx12 FU _ _ _ _ hxx12
    · have h := ite_f h c8
      refine k_bipush cx (-3) dX11_bestWidth_23 (by decide) ?_
      have h := Option.some.inj h
      exact k_iret cx hr hlk (by rw [← h]) (by rw [← h]) dX11_bestWidth_25
  · have h := ite_f h c3
    refine k_bipush cx (-2) dX11_bestWidth_9 (by decide) ?_
    have h := Option.some.inj h
    exact k_iret cx hr hlk (by rw [← h]) (by rw [← h]) dX11_bestWidth_11
set_option maxRecDepth 100000 in
set_option maxHeartbeats 4000000 in
theorem w_X11_leastHeight {Γ : GE} {σ : St} {t : Nat} {p1 : Int32} {ρ : Int32 × St} (hk : hpK σ t = 11) (h : f_X11_leastHeight σ t p1 = some ρ) : Ct Γ yX11_leastHeight cX11_leastHeight 5 (some .int) 5 114 [va_rf (some t), .int p1] σ (some (.int ρ.1)) ρ.2 := by
  refine ct_intro (own := RX11) (L0 := [(0, va_rf (some t)), (1, .int p1)]) (by decide +kernel) rfl (by simp [lg_sl, cat_rf, cat_i, cat_j]) (by simp [lv_args, cat_rf, cat_i, cat_j]) ?_
  intro p l e s m args below meth c hr hlk hin cx
  have hk0 := dn_eq hk
  unfold f_X11_leastHeight at h
  refine k_iload_n cx 1 dX11_leastHeight_0 rfl rfl ?_
  refine k_iconst cx 1 dX11_leastHeight_1 (by decide) ?_
  refine k_bipush cx 99 dX11_leastHeight_2 (by decide) ?_
  obtain ⟨q1, g2, h⟩ := bind_ok h
  refine k_callS cx iv_X11_62 (w_X11_in g2) (As := [.int p1, .int 1, .int 99]) rfl rfl ⟨Nat.le_of_ble_eq_true rfl, Nat.le_of_ble_eq_true rfl⟩ (by simp [cat_rf, cat_i, cat_j]) dX11_leastHeight_4 ?_
  refine k_if_ne cx 13 dX11_leastHeight_7 (by decide) (fun c3 => ?_) (fun c3 => ?_)
  · have h := ite_t h c3
    refine k_aload_n cx 0 dX11_leastHeight_13 rfl rfl ?_
    refine q_getR cx fl_X11_7 hk0 dX11_leastHeight_14 ?_
    refine k_sipush cx 2042 dX11_leastHeight_17 (by decide) ?_
    obtain ⟨a4, g5, h⟩ := bind_ok h
    obtain ⟨j6, g7, h⟩ := bind_ok h
    refine k_iald cx g5 g7 dX11_leastHeight_20 ?_
    refine k_istore_n cx (i := 2) [(2, .int (hpA σ a4 j6)), (0, va_rf (some t)), (1, .int p1)] dX11_leastHeight_21 rfl (by decide) (by simp [cat_rf, cat_i, cat_j]) ?_
    refine k_iconst cx (-1) dX11_leastHeight_22 (by decide) ?_
    refine k_istore_n cx (i := 3) [(3, .int (-1)), (2, .int (hpA σ a4 j6)), (0, va_rf (some t)), (1, .int p1)] dX11_leastHeight_23 rfl (by decide) (by simp [cat_rf, cat_i, cat_j]) ?_
    refine k_bipush cx 30 dX11_leastHeight_24 (by decide) ?_
    refine k_istore cx [(4, .int 30), (3, .int (-1)), (2, .int (hpA σ a4 j6)), (0, va_rf (some t)), (1, .int p1)] dX11_leastHeight_26 (by decide) (by simp [cat_rf, cat_i, cat_j]) ?_
    obtain ⟨x9, hxx9, h⟩ := bind_ok h
    have Kx9 : Og p l e s m args below meth c Γ 5 5 114 σ (some (.int ρ.1)) ρ.2 69 [(0, va_rf (some t)), (2, .int (hpA σ a4 j6)), (3, .int x9.1)] [] x9.2 := by
      refine k_aload_n cx 0 dX11_leastHeight_69 rfl rfl ?_
      obtain ⟨a25, g26, h⟩ := bind_ok h
      refine q_getR cx fl_X11_7 g26 dX11_leastHeight_70 ?_
      refine k_sipush cx 2042 dX11_leastHeight_73 (by decide) ?_
      refine k_iload_n cx 1 dX11_leastHeight_76 rfl rfl ?_
      obtain ⟨a27, g28, h⟩ := bind_ok h
      obtain ⟨j29, g30, h⟩ := bind_ok h
      refine k_iast cx g28 g30 dX11_leastHeight_77 ?_
      refine k_iload_n cx 2 dX11_leastHeight_78 rfl rfl ?_
      have h := Option.some.inj h
      exact k_iret cx hr hlk (by rw [← h]) (by rw [← h]) dX11_leastHeight_79
    have KLx9 : ∀ (n : Nat) (v3 : Int32) (v4 : Int32) (τ : St), LX11_leastHeight_28 n t p1 (hpA σ a4 j6) v3 v4 τ = some x9 → Og p l e s m args below meth c Γ 5 5 114 σ (some (.int ρ.1)) ρ.2 28 [(0, va_rf (some t)), (1, .int p1), (2, .int (hpA σ a4 j6)), (3, .int v3), (4, .int v4)] [] τ := by
      intro n
      induction n with
      | zero => intro _ _ _ h; cases (show (none : Option _) = some x9 from h)
      | succ n ihx9 =>
        intro v3 v4 τ h
        rw [LX11_leastHeight_28] at h
        refine k_iload cx 4 dX11_leastHeight_28 rfl ?_
        refine k_iconst cx 4 dX11_leastHeight_30 (by decide) ?_
        refine k_icmp_lt cx 69 dX11_leastHeight_31 (by decide) (fun c10 => ?_) (fun c10 => ?_)
        · have h := ite_t h c10
          refine k_sub [0, 2, 3] rfl ?_
          obtain rfl := Option.some.inj h
          exact Kx9
        · have h := ite_f h c10
          refine k_aload_n cx 0 dX11_leastHeight_34 rfl rfl ?_
          obtain ⟨a11, g12, h⟩ := bind_ok h
          refine q_getR cx fl_X11_7 g12 dX11_leastHeight_35 ?_
          refine k_sipush cx 2042 dX11_leastHeight_38 (by decide) ?_
          refine k_iload cx 4 dX11_leastHeight_41 rfl ?_
          obtain ⟨a13, g14, h⟩ := bind_ok h
          obtain ⟨j15, g16, h⟩ := bind_ok h
          refine k_iast cx g14 g16 dX11_leastHeight_43 ?_
          refine k_aload_n cx 0 dX11_leastHeight_44 rfl rfl ?_
          obtain ⟨q17, g18, h⟩ := bind_ok h
          refine k_callV cx iv_X11_188 (ci := 11) rfl (by decide) (w_X11_draws (dn_some g12).2 g18) g12 (As := []) rfl rfl ⟨Nat.le_of_ble_eq_true rfl, Nat.le_of_ble_eq_true rfl⟩ (by simp [cat_rf, cat_i, cat_j]) dX11_leastHeight_45 ?_
          refine k_aload_n cx 0 dX11_leastHeight_48 rfl rfl ?_
          obtain ⟨a19, g20, h⟩ := bind_ok h
          obtain ⟨q21, g22, h⟩ := bind_ok h
          refine k_callV cx iv_X11_200 (ci := 11) rfl (by decide) (w_X11_pages (dn_some g20).2 g22) g20 (As := []) rfl rfl ⟨Nat.le_of_ble_eq_true rfl, Nat.le_of_ble_eq_true rfl⟩ (by simp [cat_rf, cat_i, cat_j]) dX11_leastHeight_49 ?_
          refine k_iload_n cx 1 dX11_leastHeight_52 rfl rfl ?_
          obtain ⟨x23, hxx23, h⟩ := bind_ok h
          have Kx23 : Og p l e s m args below meth c Γ 5 5 114 σ (some (.int ρ.1)) ρ.2 62 [(0, va_rf (some t)), (1, .int p1), (2, .int (hpA σ a4 j6)), (4, .int v4)] [.int x23] q17 := by
            refine k_istore_n cx (i := 3) [(3, .int x23), (0, va_rf (some t)), (1, .int p1), (2, .int (hpA σ a4 j6)), (4, .int v4)] dX11_leastHeight_62 rfl (by decide) (by simp [cat_rf, cat_i, cat_j]) ?_
            refine k_iinc cx 4 [(4, .int (v4 + (-1))), (3, .int x23), (0, va_rf (some t)), (1, .int p1), (2, .int (hpA σ a4 j6))] (v4 + (-1)) dX11_leastHeight_63 rfl rfl (by decide) (by simp [cat_rf, cat_i, cat_j]) ?_
            refine k_goto cx 28 dX11_leastHeight_66 (by decide) ?_
            refine k_sub [2, 3, 4, 1, 0] rfl ?_
            exact ihx9 _ _ _ h
          have h := hxx23
          refine k_icmp_gt cx 61 dX11_leastHeight_53 (by decide) (fun c24 => ?_) (fun c24 => ?_)
          · have h := ite_t h c24
            refine k_iload_n cx 3 dX11_leastHeight_61 rfl rfl ?_
            refine k_sub [0, 1, 2, 4] rfl ?_
            obtain rfl := Option.some.inj h
            exact Kx23
          · have h := ite_f h c24
            refine k_iload cx 4 dX11_leastHeight_56 rfl ?_
            refine k_goto cx 62 dX11_leastHeight_58 (by decide) ?_
            refine k_sub [0, 1, 2, 4] rfl ?_
            obtain rfl := Option.some.inj h
            exact Kx23
    refine k_sub [3, 4, 2, 1, 0] rfl ?_
    exact KLx9 FU _ _ _ hxx9
  · have h := ite_f h c3
    refine k_bipush cx (-2) dX11_leastHeight_10 (by decide) ?_
    have h := Option.some.inj h
    exact k_iret cx hr hlk (by rw [← h]) (by rw [← h]) dX11_leastHeight_12
set_option maxRecDepth 100000 in
set_option maxHeartbeats 4000000 in
theorem w_X11_marked {Γ : GE} {σ : St} {t : Nat} {ρ : Int32} (hk : hpK σ t = 11) (h : f_X11_marked σ t = some ρ) : Ct Γ yX11_marked cX11_marked 3 (some .int) 3 65 [va_rf (some t)] σ (some (.int ρ)) σ := by
  refine ct_intro (own := RX11) (L0 := [(0, va_rf (some t))]) (by decide +kernel) rfl (by simp [lg_sl, cat_rf, cat_i, cat_j]) (by simp [lv_args, cat_rf, cat_i, cat_j]) ?_
  intro p l e s m args below meth c hr hlk hin cx
  have hk0 := dn_eq hk
  unfold f_X11_marked at h
  refine k_iconst cx 0 dX11_marked_0 (by decide) ?_
  refine k_istore_n cx (i := 1) [(1, .int 0), (0, va_rf (some t))] dX11_marked_1 rfl (by decide) (by simp [cat_rf, cat_i, cat_j]) ?_
  refine k_iconst cx 0 dX11_marked_2 (by decide) ?_
  refine k_istore_n cx (i := 2) [(2, .int 0), (1, .int 0), (0, va_rf (some t))] dX11_marked_3 rfl (by decide) (by simp [cat_rf, cat_i, cat_j]) ?_
  obtain ⟨x2, hxx2, h⟩ := bind_ok h
  have Kx2 : Og p l e s m args below meth c Γ 3 3 65 σ (some (.int ρ)) σ 34 [(1, .int x2)] [] σ := by
    refine k_iload_n cx 0 dX11_marked_34 rfl rfl ?_
    have h := Option.some.inj h
    exact k_iret cx hr hlk (by rw [← h]) rfl dX11_marked_35
  have KLx2 : ∀ (n : Nat) (v1 : Int32) (v2 : Int32), LX11_marked_4 n σ t v1 v2 = some x2 → Og p l e s m args below meth c Γ 3 3 65 σ (some (.int ρ)) σ 4 [(0, va_rf (some t)), (1, .int v1), (2, .int v2)] [] σ := by
    intro n
    induction n with
    | zero => intro _ _ h; cases (show (none : Option _) = some x2 from h)
    | succ n ihx2 =>
      intro v1 v2 h
      rw [LX11_marked_4] at h
      refine k_iload_n cx 2 dX11_marked_4 rfl rfl ?_
      refine k_aload_n cx 0 dX11_marked_5 rfl rfl ?_
      obtain ⟨q3, g4, h⟩ := bind_ok h
      refine k_callV cx iv_X11_200 (ci := 11) rfl (by decide) (w_X11_pages (dn_some hk0).2 g4) hk0 (As := []) rfl rfl ⟨Nat.le_of_ble_eq_true rfl, Nat.le_of_ble_eq_true rfl⟩ (by simp [cat_rf, cat_i, cat_j]) dX11_marked_6 ?_
      refine k_icmp_ge cx 34 dX11_marked_9 (by decide) (fun c5 => ?_) (fun c5 => ?_)
      · have h := ite_t h c5
        refine k_sub [1] rfl ?_
        obtain rfl := Option.some.inj h
        exact Kx2
      · have h := ite_f h c5
        refine k_iload_n cx 1 dX11_marked_12 rfl rfl ?_
        refine k_aload_n cx 0 dX11_marked_13 rfl rfl ?_
        refine k_iload_n cx 2 dX11_marked_14 rfl rfl ?_
        obtain ⟨q6, g7, h⟩ := bind_ok h
        refine k_callV cx iv_X11_209 (ci := 11) rfl (by decide) (w_X11_isMarked (dn_some hk0).2 g7) hk0 (As := [.int v2]) rfl rfl ⟨Nat.le_of_ble_eq_true rfl, Nat.le_of_ble_eq_true rfl⟩ (by simp [cat_rf, cat_i, cat_j]) dX11_marked_15 ?_
        obtain ⟨x8, hxx8, h⟩ := bind_ok h
        have Kx8 : Og p l e s m args below meth c Γ 3 3 65 σ (some (.int ρ)) σ 26 [(0, va_rf (some t)), (2, .int v2)] [.int x8, .int v1] σ := by
          refine k_iadd cx dX11_marked_26 ?_
          refine k_istore_n cx (i := 1) [(1, .int (v1 + x8)), (0, va_rf (some t)), (2, .int v2)] dX11_marked_27 rfl (by decide) (by simp [cat_rf, cat_i, cat_j]) ?_
          refine k_iinc cx 2 [(2, .int (v2 + 1)), (1, .int (v1 + x8)), (0, va_rf (some t))] (v2 + 1) dX11_marked_28 rfl rfl (by decide) (by simp [cat_rf, cat_i, cat_j]) ?_
          refine k_goto cx 4 dX11_marked_31 (by decide) ?_
          refine k_sub [2, 1, 0] rfl ?_
          exact ihx2 _ _ h
        have h := hxx8
        refine k_if_eq cx 25 dX11_marked_18 (by decide) (fun c9 => ?_) (fun c9 => ?_)
        · have h := ite_t h c9
          refine k_iconst cx 0 dX11_marked_25 (by decide) ?_
          refine k_sub [0, 2] rfl ?_
          obtain rfl := Option.some.inj h
          exact Kx8
        · have h := ite_f h c9
          refine k_iconst cx 1 dX11_marked_21 (by decide) ?_
          refine k_goto cx 26 dX11_marked_22 (by decide) ?_
          refine k_sub [0, 2] rfl ?_
          obtain rfl := Option.some.inj h
          exact Kx8
  refine k_sub [2, 1, 0] rfl ?_
  exact KLx2 FU _ _ hxx2
set_option maxRecDepth 100000 in
set_option maxHeartbeats 4000000 in
theorem w_X11_widest {Γ : GE} {σ : St} {t : Nat} {ρ : Int32} (hk : hpK σ t = 11) (h : f_X11_widest σ t = some ρ) : Ct Γ yX11_widest cX11_widest 4 (some .int) 0 0 [va_rf (some t)] σ (some (.int ρ)) σ := by
  refine ct_intro (own := RX11) (L0 := [(0, va_rf (some t))]) (by decide +kernel) rfl (by simp [lg_sl, cat_rf, cat_i, cat_j]) (by simp [lv_args, cat_rf, cat_i, cat_j]) ?_
  intro p l e s m args below meth c hr hlk hin cx
  have hk0 := dn_eq hk
  unfold f_X11_widest at h
  refine k_iconst cx 0 dX11_widest_0 (by decide) ?_
  refine k_istore_n cx (i := 1) [(1, .int 0), (0, va_rf (some t))] dX11_widest_1 rfl (by decide) (by simp [cat_rf, cat_i, cat_j]) ?_
  refine k_iconst cx 0 dX11_widest_2 (by decide) ?_
  refine k_istore_n cx (i := 2) [(2, .int 0), (1, .int 0), (0, va_rf (some t))] dX11_widest_3 rfl (by decide) (by simp [cat_rf, cat_i, cat_j]) ?_
  obtain ⟨x2, hxx2, h⟩ := bind_ok h
  have Kx2 : Og p l e s m args below meth c Γ 4 0 0 σ (some (.int ρ)) σ 43 [(1, .int x2)] [] σ := by
    refine k_iload_n cx 0 dX11_widest_43 rfl rfl ?_
    have h := Option.some.inj h
    exact k_iret cx hr hlk (by rw [← h]) rfl dX11_widest_44
  have KLx2 : ∀ (n : Nat) (v1 : Int32) (v2 : Int32), LX11_widest_4 n σ t v1 v2 = some x2 → Og p l e s m args below meth c Γ 4 0 0 σ (some (.int ρ)) σ 4 [(0, va_rf (some t)), (1, .int v1), (2, .int v2)] [] σ := by
    intro n
    induction n with
    | zero => intro _ _ h; cases (show (none : Option _) = some x2 from h)
    | succ n ihx2 =>
      intro v1 v2 h
      rw [LX11_widest_4] at h
      refine k_iload_n cx 2 dX11_widest_4 rfl rfl ?_
      refine k_aload_n cx 0 dX11_widest_5 rfl rfl ?_
      refine q_getI cx fl_X11_150 hk0 dX11_widest_6 ?_
      refine k_icmp_ge cx 43 dX11_widest_9 (by decide) (fun c3 => ?_) (fun c3 => ?_)
      · have h := ite_t h c3
        refine k_sub [1] rfl ?_
        obtain rfl := Option.some.inj h
        exact Kx2
      · have h := ite_f h c3
        refine k_aload_n cx 0 dX11_widest_12 rfl rfl ?_
        refine q_getR cx fl_X11_28 hk0 dX11_widest_13 ?_
        refine k_iload_n cx 2 dX11_widest_16 rfl rfl ?_
        obtain ⟨a4, g5, h⟩ := bind_ok h
        obtain ⟨j6, g7, h⟩ := bind_ok h
        refine k_iald cx g5 g7 dX11_widest_17 ?_
        refine k_aload_n cx 0 dX11_widest_18 rfl rfl ?_
        refine q_getR cx fl_X11_31 hk0 dX11_widest_19 ?_
        refine k_iload_n cx 2 dX11_widest_22 rfl rfl ?_
        obtain ⟨a8, g9, h⟩ := bind_ok h
        obtain ⟨j10, g11, h⟩ := bind_ok h
        refine k_iald cx g9 g11 dX11_widest_23 ?_
        refine k_iadd cx dX11_widest_24 ?_
        refine k_istore_n cx (i := 3) [(3, .int ((hpA σ a4 j6) + (hpA σ a8 j10))), (0, va_rf (some t)), (1, .int v1), (2, .int v2)] dX11_widest_25 rfl (by decide) (by simp [cat_rf, cat_i, cat_j]) ?_
        refine k_iload_n cx 0 dX11_widest_26 rfl rfl ?_
        refine k_iload_n cx 2 dX11_widest_27 rfl rfl ?_
        obtain ⟨x12, hxx12, h⟩ := bind_ok h
        have Kx12 : Og p l e s m args below meth c Γ 4 0 0 σ (some (.int ρ)) σ 36 [(0, va_rf (some t)), (2, .int v2)] [.int x12] σ := by
          refine k_istore_n cx (i := 1) [(1, .int x12), (0, va_rf (some t)), (2, .int v2)] dX11_widest_36 rfl (by decide) (by simp [cat_rf, cat_i, cat_j]) ?_
          refine k_iinc cx 2 [(2, .int (v2 + 1)), (1, .int x12), (0, va_rf (some t))] (v2 + 1) dX11_widest_37 rfl rfl (by decide) (by simp [cat_rf, cat_i, cat_j]) ?_
          refine k_goto cx 4 dX11_widest_40 (by decide) ?_
          refine k_sub [2, 1, 0] rfl ?_
          exact ihx2 _ _ h
        have h := hxx12
        refine k_icmp_le cx 35 dX11_widest_28 (by decide) (fun c13 => ?_) (fun c13 => ?_)
        · have h := ite_t h c13
          refine k_iload_n cx 2 dX11_widest_35 rfl rfl ?_
          refine k_sub [1, 3] rfl ?_
          obtain rfl := Option.some.inj h
          exact Kx12
        · have h := ite_f h c13
          refine k_iload_n cx 0 dX11_widest_31 rfl rfl ?_
          refine k_goto cx 36 dX11_widest_32 (by decide) ?_
          refine k_sub [1, 3] rfl ?_
          obtain rfl := Option.some.inj h
          exact Kx12
  refine k_sub [2, 1, 0] rfl ?_
  exact KLx2 FU _ _ hxx2
set_option maxRecDepth 100000 in
set_option maxHeartbeats 4000000 in
theorem w_X11_number {Γ : GE} {σ : St} {t : Nat} {p1 : Int32} {ρ : Int32} (hk : hpK σ t = 11) (h : f_X11_number σ t p1 = some ρ) : Ct Γ yX11_number cX11_number 2 (some .int) 4 87 [va_rf (some t), .int p1] σ (some (.int ρ)) σ := by
  refine ct_intro (own := RX11) (L0 := [(0, va_rf (some t)), (1, .int p1)]) (by decide +kernel) rfl (by simp [lg_sl, cat_rf, cat_i, cat_j]) (by simp [lv_args, cat_rf, cat_i, cat_j]) ?_
  intro p l e s m args below meth c hr hlk hin cx
  have hk0 := dn_eq hk
  unfold f_X11_number at h
  refine k_iload_n cx 1 dX11_number_0 rfl rfl ?_
  refine k_switch cx dX11_number_1 (by decide) (fun hs => ?_) (by decide) (fun k off ho hs => ?_)
  · have h0 : ¬ p1 = 0 := fun q => by rw [q] at hs; revert hs; decide
    have h1 : ¬ p1 = 1 := fun q => by rw [q] at hs; revert hs; decide
    have h2 : ¬ p1 = 2 := fun q => by rw [q] at hs; revert hs; decide
    have h3 : ¬ p1 = 3 := fun q => by rw [q] at hs; revert hs; decide
    have h4 : ¬ p1 = 4 := fun q => by rw [q] at hs; revert hs; decide
    have h5 : ¬ p1 = 5 := fun q => by rw [q] at hs; revert hs; decide
    have h6 : ¬ p1 = 6 := fun q => by rw [q] at hs; revert hs; decide
    have h7 : ¬ p1 = 7 := fun q => by rw [q] at hs; revert hs; decide
    have h8 : ¬ p1 = 8 := fun q => by rw [q] at hs; revert hs; decide
    have h9 : ¬ p1 = 9 := fun q => by rw [q] at hs; revert hs; decide
    have h10 : ¬ p1 = 10 := fun q => by rw [q] at hs; revert hs; decide
    have h := ite_f h h0
    have h := ite_f h h1
    have h := ite_f h h2
    have h := ite_f h h3
    have h := ite_f h h4
    have h := ite_f h h5
    have h := ite_f h h6
    have h := ite_f h h7
    have h := ite_f h h8
    have h := ite_f h h9
    have h := ite_f h h10
    refine k_aload_n cx 0 dX11_number_129 rfl rfl ?_
    refine q_getR cx fl_X11_7 hk0 dX11_number_130 ?_
    refine k_sipush cx 2041 dX11_number_133 (by decide) ?_
    refine k_iload_n cx 1 dX11_number_136 rfl rfl ?_
    refine k_iadd cx dX11_number_137 ?_
    refine k_bipush cx 11 dX11_number_138 (by decide) ?_
    refine k_isub cx dX11_number_140 ?_
    obtain ⟨a23, g24, h⟩ := bind_ok h
    obtain ⟨j25, g26, h⟩ := bind_ok h
    refine k_iald cx g24 g26 dX11_number_141 ?_
    have h := Option.some.inj h
    exact k_iret cx hr hlk (by rw [← h]) rfl dX11_number_142
  · match k, ho with
    | 0, ho =>
      cases ho
      have hv : p1 = 0 := Int32.toInt_inj.mp (by rw [hs]; rfl)
      have h := ite_t h hv
      refine ⟨by decide, ?_⟩
      refine k_aload_n cx 0 dX11_number_60 rfl rfl ?_
      refine q_getR cx fl_X11_7 hk0 dX11_number_61 ?_
      refine k_sipush cx 2040 dX11_number_64 (by decide) ?_
      obtain ⟨a1, g2, h⟩ := bind_ok h
      obtain ⟨j3, g4, h⟩ := bind_ok h
      refine k_iald cx g2 g4 dX11_number_67 ?_
      have h := Option.some.inj h
      exact k_iret cx hr hlk (by rw [← h]) rfl dX11_number_68
    | 1, ho =>
      cases ho
      have hv : p1 = 1 := Int32.toInt_inj.mp (by rw [hs]; rfl)
      have h := ite_f h (show ¬ p1 = 0 from fun q => by rw [hv] at q; revert q; decide)
      have h := ite_t h hv
      refine ⟨by decide, ?_⟩
      refine k_aload_n cx 0 dX11_number_69 rfl rfl ?_
      obtain ⟨q5, g6, h⟩ := bind_ok h
      refine k_callV cx iv_X11_137 (ci := 11) rfl (by decide) (w_X11_stanzas (dn_some hk0).2 g6) hk0 (As := []) rfl rfl ⟨Nat.le_of_ble_eq_true rfl, Nat.le_of_ble_eq_true rfl⟩ (by simp [cat_rf, cat_i, cat_j]) dX11_number_70 ?_
      have h := Option.some.inj h
      exact k_iret cx hr hlk (by rw [← h]) rfl dX11_number_73
    | 2, ho =>
      cases ho
      have hv : p1 = 2 := Int32.toInt_inj.mp (by rw [hs]; rfl)
      have h := ite_f h (show ¬ p1 = 0 from fun q => by rw [hv] at q; revert q; decide)
      have h := ite_f h (show ¬ p1 = 1 from fun q => by rw [hv] at q; revert q; decide)
      have h := ite_t h hv
      refine ⟨by decide, ?_⟩
      refine k_aload_n cx 0 dX11_number_74 rfl rfl ?_
      refine q_getI cx fl_X11_150 hk0 dX11_number_75 ?_
      have h := Option.some.inj h
      exact k_iret cx hr hlk (by rw [← h]) rfl dX11_number_78
    | 3, ho =>
      cases ho
      have hv : p1 = 3 := Int32.toInt_inj.mp (by rw [hs]; rfl)
      have h := ite_f h (show ¬ p1 = 0 from fun q => by rw [hv] at q; revert q; decide)
      have h := ite_f h (show ¬ p1 = 1 from fun q => by rw [hv] at q; revert q; decide)
      have h := ite_f h (show ¬ p1 = 2 from fun q => by rw [hv] at q; revert q; decide)
      have h := ite_t h hv
      refine ⟨by decide, ?_⟩
      refine k_aload_n cx 0 dX11_number_79 rfl rfl ?_
      obtain ⟨q7, g8, h⟩ := bind_ok h
      refine k_callV cx iv_X11_200 (ci := 11) rfl (by decide) (w_X11_pages (dn_some hk0).2 g8) hk0 (As := []) rfl rfl ⟨Nat.le_of_ble_eq_true rfl, Nat.le_of_ble_eq_true rfl⟩ (by simp [cat_rf, cat_i, cat_j]) dX11_number_80 ?_
      have h := Option.some.inj h
      exact k_iret cx hr hlk (by rw [← h]) rfl dX11_number_83
    | 4, ho =>
      cases ho
      have hv : p1 = 4 := Int32.toInt_inj.mp (by rw [hs]; rfl)
      have h := ite_f h (show ¬ p1 = 0 from fun q => by rw [hv] at q; revert q; decide)
      have h := ite_f h (show ¬ p1 = 1 from fun q => by rw [hv] at q; revert q; decide)
      have h := ite_f h (show ¬ p1 = 2 from fun q => by rw [hv] at q; revert q; decide)
      have h := ite_f h (show ¬ p1 = 3 from fun q => by rw [hv] at q; revert q; decide)
      have h := ite_t h hv
      refine ⟨by decide, ?_⟩
      refine k_aload_n cx 0 dX11_number_84 rfl rfl ?_
      obtain ⟨q9, g10, h⟩ := bind_ok h
      refine k_callV cx iv_X11_225 (ci := 11) rfl (by decide) (w_X11_overRows (dn_some hk0).2 g10) hk0 (As := []) rfl rfl ⟨Nat.le_of_ble_eq_true rfl, Nat.le_of_ble_eq_true rfl⟩ (by simp [cat_rf, cat_i, cat_j]) dX11_number_85 ?_
      have h := Option.some.inj h
      exact k_iret cx hr hlk (by rw [← h]) rfl dX11_number_88
    | 5, ho =>
      cases ho
      have hv : p1 = 5 := Int32.toInt_inj.mp (by rw [hs]; rfl)
      have h := ite_f h (show ¬ p1 = 0 from fun q => by rw [hv] at q; revert q; decide)
      have h := ite_f h (show ¬ p1 = 1 from fun q => by rw [hv] at q; revert q; decide)
      have h := ite_f h (show ¬ p1 = 2 from fun q => by rw [hv] at q; revert q; decide)
      have h := ite_f h (show ¬ p1 = 3 from fun q => by rw [hv] at q; revert q; decide)
      have h := ite_f h (show ¬ p1 = 4 from fun q => by rw [hv] at q; revert q; decide)
      have h := ite_t h hv
      refine ⟨by decide, ?_⟩
      refine k_aload_n cx 0 dX11_number_89 rfl rfl ?_
      obtain ⟨q11, g12, h⟩ := bind_ok h
      refine k_callV cx iv_X11_228 (ci := 11) rfl (by decide) (w_X11_withinRows (dn_some hk0).2 g12) hk0 (As := []) rfl rfl ⟨Nat.le_of_ble_eq_true rfl, Nat.le_of_ble_eq_true rfl⟩ (by simp [cat_rf, cat_i, cat_j]) dX11_number_90 ?_
      have h := Option.some.inj h
      exact k_iret cx hr hlk (by rw [← h]) rfl dX11_number_93
    | 6, ho =>
      cases ho
      have hv : p1 = 6 := Int32.toInt_inj.mp (by rw [hs]; rfl)
      have h := ite_f h (show ¬ p1 = 0 from fun q => by rw [hv] at q; revert q; decide)
      have h := ite_f h (show ¬ p1 = 1 from fun q => by rw [hv] at q; revert q; decide)
      have h := ite_f h (show ¬ p1 = 2 from fun q => by rw [hv] at q; revert q; decide)
      have h := ite_f h (show ¬ p1 = 3 from fun q => by rw [hv] at q; revert q; decide)
      have h := ite_f h (show ¬ p1 = 4 from fun q => by rw [hv] at q; revert q; decide)
      have h := ite_f h (show ¬ p1 = 5 from fun q => by rw [hv] at q; revert q; decide)
      have h := ite_t h hv
      refine ⟨by decide, ?_⟩
      refine k_aload_n cx 0 dX11_number_94 rfl rfl ?_
      obtain ⟨q13, g14, h⟩ := bind_ok h
      refine k_callV cx iv_X11_231 (ci := 11) rfl (by decide) (w_X11_marked (dn_some hk0).2 g14) hk0 (As := []) rfl rfl ⟨Nat.le_of_ble_eq_true rfl, Nat.le_of_ble_eq_true rfl⟩ (by simp [cat_rf, cat_i, cat_j]) dX11_number_95 ?_
      have h := Option.some.inj h
      exact k_iret cx hr hlk (by rw [← h]) rfl dX11_number_98
    | 7, ho =>
      cases ho
      have hv : p1 = 7 := Int32.toInt_inj.mp (by rw [hs]; rfl)
      have h := ite_f h (show ¬ p1 = 0 from fun q => by rw [hv] at q; revert q; decide)
      have h := ite_f h (show ¬ p1 = 1 from fun q => by rw [hv] at q; revert q; decide)
      have h := ite_f h (show ¬ p1 = 2 from fun q => by rw [hv] at q; revert q; decide)
      have h := ite_f h (show ¬ p1 = 3 from fun q => by rw [hv] at q; revert q; decide)
      have h := ite_f h (show ¬ p1 = 4 from fun q => by rw [hv] at q; revert q; decide)
      have h := ite_f h (show ¬ p1 = 5 from fun q => by rw [hv] at q; revert q; decide)
      have h := ite_f h (show ¬ p1 = 6 from fun q => by rw [hv] at q; revert q; decide)
      have h := ite_t h hv
      refine ⟨by decide, ?_⟩
      refine k_aload_n cx 0 dX11_number_99 rfl rfl ?_
      refine k_aload_n cx 0 dX11_number_100 rfl rfl ?_
      refine q_getR cx fl_X11_7 hk0 dX11_number_101 ?_
      refine k_sipush cx 2040 dX11_number_104 (by decide) ?_
      obtain ⟨a15, g16, h⟩ := bind_ok h
      obtain ⟨j17, g18, h⟩ := bind_ok h
      refine k_iald cx g16 g18 dX11_number_107 ?_
      refine k_iconst cx 1 dX11_number_108 (by decide) ?_
      refine k_isub cx dX11_number_109 ?_
      obtain ⟨q19, g20, h⟩ := bind_ok h
      refine k_callV cx iv_X11_185 (ci := 11) rfl (by decide) (w_X11_numberOf (dn_some hk0).2 g20) hk0 (As := [.int ((hpA σ a15 j17) - 1)]) rfl rfl ⟨Nat.le_of_ble_eq_true rfl, Nat.le_of_ble_eq_true rfl⟩ (by simp [cat_rf, cat_i, cat_j]) dX11_number_110 ?_
      have h := Option.some.inj h
      exact k_iret cx hr hlk (by rw [← h]) rfl dX11_number_113
    | 8, ho =>
      cases ho
      have hv : p1 = 8 := Int32.toInt_inj.mp (by rw [hs]; rfl)
      have h := ite_f h (show ¬ p1 = 0 from fun q => by rw [hv] at q; revert q; decide)
      have h := ite_f h (show ¬ p1 = 1 from fun q => by rw [hv] at q; revert q; decide)
      have h := ite_f h (show ¬ p1 = 2 from fun q => by rw [hv] at q; revert q; decide)
      have h := ite_f h (show ¬ p1 = 3 from fun q => by rw [hv] at q; revert q; decide)
      have h := ite_f h (show ¬ p1 = 4 from fun q => by rw [hv] at q; revert q; decide)
      have h := ite_f h (show ¬ p1 = 5 from fun q => by rw [hv] at q; revert q; decide)
      have h := ite_f h (show ¬ p1 = 6 from fun q => by rw [hv] at q; revert q; decide)
      have h := ite_f h (show ¬ p1 = 7 from fun q => by rw [hv] at q; revert q; decide)
      have h := ite_t h hv
      refine ⟨by decide, ?_⟩
      refine k_aload_n cx 0 dX11_number_114 rfl rfl ?_
      obtain ⟨q21, g22, h⟩ := bind_ok h
      refine k_callV cx iv_X11_234 (ci := 11) rfl (by decide) (w_X11_widest (dn_some hk0).2 g22) hk0 (As := []) rfl rfl ⟨Nat.le_of_ble_eq_true rfl, Nat.le_of_ble_eq_true rfl⟩ (by simp [cat_rf, cat_i, cat_j]) dX11_number_115 ?_
      have h := Option.some.inj h
      exact k_iret cx hr hlk (by rw [← h]) rfl dX11_number_118
    | 9, ho =>
      cases ho
      have hv : p1 = 9 := Int32.toInt_inj.mp (by rw [hs]; rfl)
      have h := ite_f h (show ¬ p1 = 0 from fun q => by rw [hv] at q; revert q; decide)
      have h := ite_f h (show ¬ p1 = 1 from fun q => by rw [hv] at q; revert q; decide)
      have h := ite_f h (show ¬ p1 = 2 from fun q => by rw [hv] at q; revert q; decide)
      have h := ite_f h (show ¬ p1 = 3 from fun q => by rw [hv] at q; revert q; decide)
      have h := ite_f h (show ¬ p1 = 4 from fun q => by rw [hv] at q; revert q; decide)
      have h := ite_f h (show ¬ p1 = 5 from fun q => by rw [hv] at q; revert q; decide)
      have h := ite_f h (show ¬ p1 = 6 from fun q => by rw [hv] at q; revert q; decide)
      have h := ite_f h (show ¬ p1 = 7 from fun q => by rw [hv] at q; revert q; decide)
      have h := ite_f h (show ¬ p1 = 8 from fun q => by rw [hv] at q; revert q; decide)
      have h := ite_t h hv
      refine ⟨by decide, ?_⟩
      refine k_aload_n cx 0 dX11_number_119 rfl rfl ?_
      refine q_getI cx fl_X11_58 hk0 dX11_number_120 ?_
      have h := Option.some.inj h
      exact k_iret cx hr hlk (by rw [← h]) rfl dX11_number_123
    | 10, ho =>
      cases ho
      have hv : p1 = 10 := Int32.toInt_inj.mp (by rw [hs]; rfl)
      have h := ite_f h (show ¬ p1 = 0 from fun q => by rw [hv] at q; revert q; decide)
      have h := ite_f h (show ¬ p1 = 1 from fun q => by rw [hv] at q; revert q; decide)
      have h := ite_f h (show ¬ p1 = 2 from fun q => by rw [hv] at q; revert q; decide)
      have h := ite_f h (show ¬ p1 = 3 from fun q => by rw [hv] at q; revert q; decide)
      have h := ite_f h (show ¬ p1 = 4 from fun q => by rw [hv] at q; revert q; decide)
      have h := ite_f h (show ¬ p1 = 5 from fun q => by rw [hv] at q; revert q; decide)
      have h := ite_f h (show ¬ p1 = 6 from fun q => by rw [hv] at q; revert q; decide)
      have h := ite_f h (show ¬ p1 = 7 from fun q => by rw [hv] at q; revert q; decide)
      have h := ite_f h (show ¬ p1 = 8 from fun q => by rw [hv] at q; revert q; decide)
      have h := ite_f h (show ¬ p1 = 9 from fun q => by rw [hv] at q; revert q; decide)
      have h := ite_t h hv
      refine ⟨by decide, ?_⟩
      refine k_aload_n cx 0 dX11_number_124 rfl rfl ?_
      refine q_getI cx fl_X11_66 hk0 dX11_number_125 ?_
      have h := Option.some.inj h
      exact k_iret cx hr hlk (by rw [← h]) rfl dX11_number_128
    | k + 11, ho => exact absurd ho (by simp)
set_option maxRecDepth 100000 in
set_option maxHeartbeats 4000000 in
theorem w_X11_count {Γ : GE} {σ : St} {t : Nat} {p1 : Int32} {ρ : Int32 × St} (hk : hpK σ t = 11) (h : f_X11_count σ t p1 = some ρ) : Ct Γ yX11_count cX11_count 2 (some .int) 5 114 [va_rf (some t), .int p1] σ (some (.int ρ.1)) ρ.2 := by
  refine ct_intro (own := RX11) (L0 := [(0, va_rf (some t)), (1, .int p1)]) (by decide +kernel) rfl (by simp [lg_sl, cat_rf, cat_i, cat_j]) (by simp [lv_args, cat_rf, cat_i, cat_j]) ?_
  intro p l e s m args below meth c hr hlk hin cx
  have hk0 := dn_eq hk
  unfold f_X11_count at h
  refine k_iload_n cx 1 dX11_count_0 rfl rfl ?_
  refine k_iconst cx 0 dX11_count_1 (by decide) ?_
  refine k_bipush cx 15 dX11_count_2 (by decide) ?_
  obtain ⟨q1, g2, h⟩ := bind_ok h
  refine k_callS cx iv_X11_62 (w_X11_in g2) (As := [.int p1, .int 0, .int 15]) rfl rfl ⟨Nat.le_of_ble_eq_true rfl, Nat.le_of_ble_eq_true rfl⟩ (by simp [cat_rf, cat_i, cat_j]) dX11_count_4 ?_
  refine k_if_ne cx 13 dX11_count_7 (by decide) (fun c3 => ?_) (fun c3 => ?_)
  · have h := ite_t h c3
    refine k_aload_n cx 0 dX11_count_13 rfl rfl ?_
    obtain ⟨q4, g5, h⟩ := bind_ok h
    refine k_callV cx iv_X11_188 (ci := 11) rfl (by decide) (w_X11_draws (dn_some hk0).2 g5) hk0 (As := []) rfl rfl ⟨Nat.le_of_ble_eq_true rfl, Nat.le_of_ble_eq_true rfl⟩ (by simp [cat_rf, cat_i, cat_j]) dX11_count_14 ?_
    refine k_aload_n cx 0 dX11_count_17 rfl rfl ?_
    refine k_iload_n cx 1 dX11_count_18 rfl rfl ?_
    obtain ⟨a6, g7, h⟩ := bind_ok h
    obtain ⟨q8, g9, h⟩ := bind_ok h
    refine k_callV cx iv_X11_237 (ci := 11) rfl (by decide) (w_X11_number (dn_some g7).2 g9) g7 (As := [.int p1]) rfl rfl ⟨Nat.le_of_ble_eq_true rfl, Nat.le_of_ble_eq_true rfl⟩ (by simp [cat_rf, cat_i, cat_j]) dX11_count_19 ?_
    have h := Option.some.inj h
    exact k_iret cx hr hlk (by rw [← h]) (by rw [← h]) dX11_count_22
  · have h := ite_f h c3
    refine k_bipush cx (-2) dX11_count_10 (by decide) ?_
    have h := Option.some.inj h
    exact k_iret cx hr hlk (by rw [← h]) (by rw [← h]) dX11_count_12
set_option maxRecDepth 100000 in
set_option maxHeartbeats 4000000 in
theorem w_X11_mixes {Γ : GE} {σ : St} {t : Nat} {p1 : Int64} {ρ : St} (hk : hpK σ t = 11) (h : f_X11_mixes σ t p1 = some ρ) : Ct Γ yX11_mixes cX11_mixes 3 none 0 0 [va_rf (some t), .long p1] σ none ρ := by
  refine ct_intro (own := RX11) (L0 := [(0, va_rf (some t)), (1, .long p1)]) (by decide +kernel) rfl (by simp [lg_sl, cat_rf, cat_i, cat_j]) (by simp [lv_args, cat_rf, cat_i, cat_j]) ?_
  intro p l e s m args below meth c hr hlk hin cx
  have hk0 := dn_eq hk
  unfold f_X11_mixes at h
  refine k_aload_n cx 0 dX11_mixes_0 rfl rfl ?_
  refine k_ldc2 cx 31 lw_X11_240 dX11_mixes_1 ?_
  refine k_aload_n cx 0 dX11_mixes_4 rfl rfl ?_
  refine q_getJ cx fl_X11_242 hk0 dX11_mixes_5 ?_
  refine k_lmul cx dX11_mixes_8 ?_
  refine k_lload_n cx 1 dX11_mixes_9 rfl rfl ?_
  refine k_ladd cx dX11_mixes_10 ?_
  refine q_putJ cx pl_X11_242 hk0 dX11_mixes_11 ?_
  have h := Option.some.inj h
  exact k_vret cx hr hlk rfl (by rw [← h]) dX11_mixes_14
set_option maxRecDepth 100000 in
set_option maxHeartbeats 4000000 in
theorem w_X11_digest {Γ : GE} {σ : St} {t : Nat} {ρ : Int64 × St} (hk : hpK σ t = 11) (h : f_X11_digest σ t = some ρ) : Ct Γ yX11_digest cX11_digest 2 (some .long) 6 131 [va_rf (some t)] σ (some (.long ρ.1)) ρ.2 := by
  refine ct_intro (own := RX11) (L0 := [(0, va_rf (some t))]) (by decide +kernel) rfl (by simp [lg_sl, cat_rf, cat_i, cat_j]) (by simp [lv_args, cat_rf, cat_i, cat_j]) ?_
  intro p l e s m args below meth c hr hlk hin cx
  have hk0 := dn_eq hk
  unfold f_X11_digest at h
  refine k_aload_n cx 0 dX11_digest_0 rfl rfl ?_
  refine k_ldc2 cx 805 lw_X11_246 dX11_digest_1 ?_
  refine q_putJ cx pl_X11_242 hk0 dX11_digest_4 ?_
  refine k_aload_n cx 0 dX11_digest_7 rfl rfl ?_
  obtain ⟨q1, g2, h⟩ := bind_ok h
  refine k_callV cx iv_X11_188 (ci := 11) rfl (by decide) (w_X11_draws (dn_some hk0).2 g2) hk0 (As := []) rfl rfl ⟨Nat.le_of_ble_eq_true rfl, Nat.le_of_ble_eq_true rfl⟩ (by simp [cat_rf, cat_i, cat_j]) dX11_digest_8 ?_
  refine k_iconst cx 0 dX11_digest_11 (by decide) ?_
  refine k_istore_n cx (i := 1) [(1, .int 0), (0, va_rf (some t))] dX11_digest_12 rfl (by decide) (by simp [cat_rf, cat_i, cat_j]) ?_
  obtain ⟨x4, hxx4, h⟩ := bind_ok h
  have Kx4 : Og p l e s m args below meth c Γ 2 6 131 σ (some (.long ρ.1)) ρ.2 35 [(0, va_rf (some t))] [] x4 := by
    refine k_iconst cx 0 dX11_digest_35 (by decide) ?_
    refine k_istore_n cx (i := 1) [(1, .int 0), (0, va_rf (some t))] dX11_digest_36 rfl (by decide) (by simp [cat_rf, cat_i, cat_j]) ?_
    obtain ⟨x13, hxx13, h⟩ := bind_ok h
    have Kx13 : Og p l e s m args below meth c Γ 2 6 131 σ (some (.long ρ.1)) ρ.2 75 [(0, va_rf (some t))] [] x13 := by
      refine k_iconst cx 0 dX11_digest_75 (by decide) ?_
      refine k_istore_n cx (i := 1) [(1, .int 0), (0, va_rf (some t))] dX11_digest_76 rfl (by decide) (by simp [cat_rf, cat_i, cat_j]) ?_
      obtain ⟨x30, hxx30, h⟩ := bind_ok h
      have Kx30 : Og p l e s m args below meth c Γ 2 6 131 σ (some (.long ρ.1)) ρ.2 111 [(0, va_rf (some t))] [] x30 := by
        refine k_iconst cx 0 dX11_digest_111 (by decide) ?_
        refine k_istore_n cx (i := 1) [(1, .int 0), (0, va_rf (some t))] dX11_digest_112 rfl (by decide) (by simp [cat_rf, cat_i, cat_j]) ?_
        obtain ⟨x43, hxx43, h⟩ := bind_ok h
        have Kx43 : Og p l e s m args below meth c Γ 2 6 131 σ (some (.long ρ.1)) ρ.2 144 [(0, va_rf (some t))] [] x43 := by
          refine k_iconst cx 0 dX11_digest_144 (by decide) ?_
          refine k_istore_n cx (i := 1) [(1, .int 0), (0, va_rf (some t))] dX11_digest_145 rfl (by decide) (by simp [cat_rf, cat_i, cat_j]) ?_
          obtain ⟨x58, hxx58, h⟩ := bind_ok h
          have Kx58 : Og p l e s m args below meth c Γ 2 6 131 σ (some (.long ρ.1)) ρ.2 198 [(0, va_rf (some t))] [] x58 := by
            refine k_iconst cx 0 dX11_digest_198 (by decide) ?_
            refine k_istore_n cx (i := 1) [(1, .int 0), (0, va_rf (some t))] dX11_digest_199 rfl (by decide) (by simp [cat_rf, cat_i, cat_j]) ?_
            obtain ⟨x79, hxx79, h⟩ := bind_ok h
            have Kx79 : Og p l e s m args below meth c Γ 2 6 131 σ (some (.long ρ.1)) ρ.2 224 [(0, va_rf (some t))] [] x79 := by
              refine k_iconst cx 0 dX11_digest_224 (by decide) ?_
              refine k_istore_n cx (i := 1) [(1, .int 0), (0, va_rf (some t))] dX11_digest_225 rfl (by decide) (by simp [cat_rf, cat_i, cat_j]) ?_
              obtain ⟨x90, hxx90, h⟩ := bind_ok h
              have Kx90 : Og p l e s m args below meth c Γ 2 6 131 σ (some (.long ρ.1)) ρ.2 251 [(0, va_rf (some t))] [] x90 := by
                refine k_aload_n cx 0 dX11_digest_251 rfl rfl ?_
                obtain ⟨a100, g101, h⟩ := bind_ok h
                refine q_getJ cx fl_X11_242 g101 dX11_digest_252 ?_
                have h := Option.some.inj h
                exact k_lret cx hr hlk (by rw [← h]) (by rw [← h]) dX11_digest_255
              have KLx90 : ∀ (n : Nat) (v1 : Int32) (τ : St), LX11_digest_226 n t v1 τ = some x90 → Og p l e s m args below meth c Γ 2 6 131 σ (some (.long ρ.1)) ρ.2 226 [(0, va_rf (some t)), (1, .int v1)] [] τ := by
                intro n
                induction n with
                | zero => intro _ _ h; cases (show (none : Option _) = some x90 from h)
                | succ n ihx90 =>
                  intro v1 τ h
                  rw [LX11_digest_226] at h
                  refine k_iload_n cx 1 dX11_digest_226 rfl rfl ?_
                  refine k_aload_n cx 0 dX11_digest_227 rfl rfl ?_
                  obtain ⟨a91, g92, h⟩ := bind_ok h
                  refine q_getI cx fl_X11_66 g92 dX11_digest_228 ?_
                  refine k_icmp_ge cx 251 dX11_digest_231 (by decide) (fun c93 => ?_) (fun c93 => ?_)
                  · have h := ite_t h c93
                    refine k_sub [0] rfl ?_
                    obtain rfl := Option.some.inj h
                    exact Kx90
                  · have h := ite_f h c93
                    refine k_aload_n cx 0 dX11_digest_234 rfl rfl ?_
                    refine k_aload_n cx 0 dX11_digest_235 rfl rfl ?_
                    refine q_getR cx fl_X11_16 g92 dX11_digest_236 ?_
                    refine k_iload_n cx 1 dX11_digest_239 rfl rfl ?_
                    obtain ⟨a94, g95, h⟩ := bind_ok h
                    obtain ⟨j96, g97, h⟩ := bind_ok h
                    refine k_iald cx g95 g97 dX11_digest_240 ?_
                    refine k_i2l cx dX11_digest_241 ?_
                    obtain ⟨q98, g99, h⟩ := bind_ok h
                    refine k_callV cx iv_X11_248 (ci := 11) rfl (by decide) (w_X11_mixes (dn_some g92).2 g99) g92 (As := [.long (((hpA τ a94 j96)).toInt64)]) rfl rfl ⟨Nat.le_of_ble_eq_true rfl, Nat.le_of_ble_eq_true rfl⟩ (by simp [cat_rf, cat_i, cat_j]) dX11_digest_242 ?_
                    refine k_iinc cx 1 [(1, .int (v1 + 1)), (0, va_rf (some t))] (v1 + 1) dX11_digest_245 rfl rfl (by decide) (by simp [cat_rf, cat_i, cat_j]) ?_
                    refine k_goto cx 226 dX11_digest_248 (by decide) ?_
                    refine k_sub [1, 0] rfl ?_
                    exact ihx90 _ _ h
              refine k_sub [1, 0] rfl ?_
              exact KLx90 FU _ _ hxx90
            have KLx79 : ∀ (n : Nat) (v1 : Int32) (τ : St), LX11_digest_200 n t v1 τ = some x79 → Og p l e s m args below meth c Γ 2 6 131 σ (some (.long ρ.1)) ρ.2 200 [(0, va_rf (some t)), (1, .int v1)] [] τ := by
              intro n
              induction n with
              | zero => intro _ _ h; cases (show (none : Option _) = some x79 from h)
              | succ n ihx79 =>
                intro v1 τ h
                rw [LX11_digest_200] at h
                refine k_iload_n cx 1 dX11_digest_200 rfl rfl ?_
                refine k_aload_n cx 0 dX11_digest_201 rfl rfl ?_
                obtain ⟨a80, g81, h⟩ := bind_ok h
                obtain ⟨q82, g83, h⟩ := bind_ok h
                refine k_callV cx iv_X11_137 (ci := 11) rfl (by decide) (w_X11_stanzas (dn_some g81).2 g83) g81 (As := []) rfl rfl ⟨Nat.le_of_ble_eq_true rfl, Nat.le_of_ble_eq_true rfl⟩ (by simp [cat_rf, cat_i, cat_j]) dX11_digest_202 ?_
                refine k_icmp_ge cx 224 dX11_digest_205 (by decide) (fun c84 => ?_) (fun c84 => ?_)
                · have h := ite_t h c84
                  refine k_sub [0] rfl ?_
                  obtain rfl := Option.some.inj h
                  exact Kx79
                · have h := ite_f h c84
                  refine k_aload_n cx 0 dX11_digest_208 rfl rfl ?_
                  refine k_aload_n cx 0 dX11_digest_209 rfl rfl ?_
                  refine k_iload_n cx 1 dX11_digest_210 rfl rfl ?_
                  obtain ⟨q85, g86, h⟩ := bind_ok h
                  refine k_callV cx iv_X11_222 (ci := 11) rfl (by decide) (w_X11_nearest (dn_some g81).2 g86) g81 (As := [.int v1]) rfl rfl ⟨Nat.le_of_ble_eq_true rfl, Nat.le_of_ble_eq_true rfl⟩ (by simp [cat_rf, cat_i, cat_j]) dX11_digest_211 ?_
                  refine k_i2l cx dX11_digest_214 ?_
                  obtain ⟨q87, g88, h⟩ := bind_ok h
                  refine k_callV cx iv_X11_248 (ci := 11) rfl (by decide) (w_X11_mixes (dn_some g81).2 g88) g81 (As := [.long ((q85).toInt64)]) rfl rfl ⟨Nat.le_of_ble_eq_true rfl, Nat.le_of_ble_eq_true rfl⟩ (by simp [cat_rf, cat_i, cat_j]) dX11_digest_215 ?_
                  refine k_iinc cx 1 [(1, .int (v1 + 1)), (0, va_rf (some t))] (v1 + 1) dX11_digest_218 rfl rfl (by decide) (by simp [cat_rf, cat_i, cat_j]) ?_
                  refine k_goto cx 200 dX11_digest_221 (by decide) ?_
                  refine k_sub [1, 0] rfl ?_
                  exact ihx79 _ _ h
            refine k_sub [1, 0] rfl ?_
            exact KLx79 FU _ _ hxx79
          have KLx58 : ∀ (n : Nat) (v1 : Int32) (τ : St), LX11_digest_146 n t v1 τ = some x58 → Og p l e s m args below meth c Γ 2 6 131 σ (some (.long ρ.1)) ρ.2 146 [(0, va_rf (some t)), (1, .int v1)] [] τ := by
            intro n
            induction n with
            | zero => intro _ _ h; cases (show (none : Option _) = some x58 from h)
            | succ n ihx58 =>
              intro v1 τ h
              rw [LX11_digest_146] at h
              refine k_iload_n cx 1 dX11_digest_146 rfl rfl ?_
              refine k_aload_n cx 0 dX11_digest_147 rfl rfl ?_
              obtain ⟨a59, g60, h⟩ := bind_ok h
              refine q_getR cx fl_X11_7 g60 dX11_digest_148 ?_
              refine k_sipush cx 2041 dX11_digest_151 (by decide) ?_
              obtain ⟨a61, g62, h⟩ := bind_ok h
              obtain ⟨j63, g64, h⟩ := bind_ok h
              refine k_iald cx g62 g64 dX11_digest_154 ?_
              refine k_aload_n cx 0 dX11_digest_155 rfl rfl ?_
              refine q_getI cx fl_X11_150 g60 dX11_digest_156 ?_
              refine k_imul cx dX11_digest_159 ?_
              refine k_icmp_ge cx 198 dX11_digest_160 (by decide) (fun c65 => ?_) (fun c65 => ?_)
              · have h := ite_t h c65
                refine k_sub [0] rfl ?_
                obtain rfl := Option.some.inj h
                exact Kx58
              · have h := ite_f h c65
                refine k_aload_n cx 0 dX11_digest_163 rfl rfl ?_
                refine k_aload_n cx 0 dX11_digest_164 rfl rfl ?_
                refine k_iload_n cx 1 dX11_digest_165 rfl rfl ?_
                refine k_aload_n cx 0 dX11_digest_166 rfl rfl ?_
                refine q_getR cx fl_X11_7 g60 dX11_digest_167 ?_
                refine k_sipush cx 2041 dX11_digest_170 (by decide) ?_
                obtain ⟨j66, g67, h⟩ := bind_ok h
                refine k_iald cx g62 g67 dX11_digest_173 ?_
                obtain ⟨w68, g69, h⟩ := bind_ok h
                refine k_idiv cx dX11_digest_174 g69 ?_
                refine k_iload_n cx 1 dX11_digest_175 rfl rfl ?_
                refine k_aload_n cx 0 dX11_digest_176 rfl rfl ?_
                refine q_getR cx fl_X11_7 g60 dX11_digest_177 ?_
                refine k_sipush cx 2041 dX11_digest_180 (by decide) ?_
                obtain ⟨j70, g71, h⟩ := bind_ok h
                refine k_iald cx g62 g71 dX11_digest_183 ?_
                obtain ⟨w72, g73, h⟩ := bind_ok h
                refine k_irem cx dX11_digest_184 g73 ?_
                obtain ⟨q74, g75, h⟩ := bind_ok h
                refine k_callV cx iv_X11_203 (ci := 11) rfl (by decide) (w_X11_byteAt (dn_some g60).2 g75) g60 (As := [.int (v1 / (hpA τ a61 j66)), .int (v1 - v1 / (hpA τ a61 j70) * (hpA τ a61 j70))]) rfl rfl ⟨Nat.le_of_ble_eq_true rfl, Nat.le_of_ble_eq_true rfl⟩ (by simp [cat_rf, cat_i, cat_j]) dX11_digest_185 ?_
                refine k_i2l cx dX11_digest_188 ?_
                obtain ⟨q76, g77, h⟩ := bind_ok h
                refine k_callV cx iv_X11_248 (ci := 11) rfl (by decide) (w_X11_mixes (dn_some g60).2 g77) g60 (As := [.long ((q74).toInt64)]) rfl rfl ⟨Nat.le_of_ble_eq_true rfl, Nat.le_of_ble_eq_true rfl⟩ (by simp [cat_rf, cat_i, cat_j]) dX11_digest_189 ?_
                refine k_iinc cx 1 [(1, .int (v1 + 1)), (0, va_rf (some t))] (v1 + 1) dX11_digest_192 rfl rfl (by decide) (by simp [cat_rf, cat_i, cat_j]) ?_
                refine k_goto cx 146 dX11_digest_195 (by decide) ?_
                refine k_sub [1, 0] rfl ?_
                exact ihx58 _ _ h
          refine k_sub [1, 0] rfl ?_
          exact KLx58 FU _ _ hxx58
        have KLx43 : ∀ (n : Nat) (v1 : Int32) (τ : St), LX11_digest_113 n t v1 τ = some x43 → Og p l e s m args below meth c Γ 2 6 131 σ (some (.long ρ.1)) ρ.2 113 [(0, va_rf (some t)), (1, .int v1)] [] τ := by
          intro n
          induction n with
          | zero => intro _ _ h; cases (show (none : Option _) = some x43 from h)
          | succ n ihx43 =>
            intro v1 τ h
            rw [LX11_digest_113] at h
            refine k_iload_n cx 1 dX11_digest_113 rfl rfl ?_
            refine k_iconst cx 5 dX11_digest_114 (by decide) ?_
            refine k_aload_n cx 0 dX11_digest_115 rfl rfl ?_
            obtain ⟨a44, g45, h⟩ := bind_ok h
            obtain ⟨q46, g47, h⟩ := bind_ok h
            refine k_callV cx iv_X11_200 (ci := 11) rfl (by decide) (w_X11_pages (dn_some g45).2 g47) g45 (As := []) rfl rfl ⟨Nat.le_of_ble_eq_true rfl, Nat.le_of_ble_eq_true rfl⟩ (by simp [cat_rf, cat_i, cat_j]) dX11_digest_116 ?_
            refine k_imul cx dX11_digest_119 ?_
            refine k_icmp_ge cx 144 dX11_digest_120 (by decide) (fun c48 => ?_) (fun c48 => ?_)
            · have h := ite_t h c48
              refine k_sub [0] rfl ?_
              obtain rfl := Option.some.inj h
              exact Kx43
            · have h := ite_f h c48
              refine k_aload_n cx 0 dX11_digest_123 rfl rfl ?_
              refine k_aload_n cx 0 dX11_digest_124 rfl rfl ?_
              refine k_iload_n cx 1 dX11_digest_125 rfl rfl ?_
              refine k_iconst cx 5 dX11_digest_126 (by decide) ?_
              obtain ⟨w49, g50, h⟩ := bind_ok h
              refine k_idiv cx dX11_digest_127 g50 ?_
              refine k_iload_n cx 1 dX11_digest_128 rfl rfl ?_
              refine k_iconst cx 5 dX11_digest_129 (by decide) ?_
              obtain ⟨w51, g52, h⟩ := bind_ok h
              refine k_irem cx dX11_digest_130 g52 ?_
              obtain ⟨q53, g54, h⟩ := bind_ok h
              refine k_callV cx iv_X11_212 (ci := 11) rfl (by decide) (w_X11_pagePart (dn_some g45).2 g54) g45 (As := [.int (v1 / 5), .int (v1 - v1 / 5 * 5)]) rfl rfl ⟨Nat.le_of_ble_eq_true rfl, Nat.le_of_ble_eq_true rfl⟩ (by simp [cat_rf, cat_i, cat_j]) dX11_digest_131 ?_
              refine k_i2l cx dX11_digest_134 ?_
              obtain ⟨q55, g56, h⟩ := bind_ok h
              refine k_callV cx iv_X11_248 (ci := 11) rfl (by decide) (w_X11_mixes (dn_some g45).2 g56) g45 (As := [.long ((q53).toInt64)]) rfl rfl ⟨Nat.le_of_ble_eq_true rfl, Nat.le_of_ble_eq_true rfl⟩ (by simp [cat_rf, cat_i, cat_j]) dX11_digest_135 ?_
              refine k_iinc cx 1 [(1, .int (v1 + 1)), (0, va_rf (some t))] (v1 + 1) dX11_digest_138 rfl rfl (by decide) (by simp [cat_rf, cat_i, cat_j]) ?_
              refine k_goto cx 113 dX11_digest_141 (by decide) ?_
              refine k_sub [1, 0] rfl ?_
              exact ihx43 _ _ h
        refine k_sub [1, 0] rfl ?_
        exact KLx43 FU _ _ hxx43
      have KLx30 : ∀ (n : Nat) (v1 : Int32) (τ : St), LX11_digest_77 n t v1 τ = some x30 → Og p l e s m args below meth c Γ 2 6 131 σ (some (.long ρ.1)) ρ.2 77 [(0, va_rf (some t)), (1, .int v1)] [] τ := by
        intro n
        induction n with
        | zero => intro _ _ h; cases (show (none : Option _) = some x30 from h)
        | succ n ihx30 =>
          intro v1 τ h
          rw [LX11_digest_77] at h
          refine k_iload_n cx 1 dX11_digest_77 rfl rfl ?_
          refine k_bipush cx 9 dX11_digest_78 (by decide) ?_
          refine k_aload_n cx 0 dX11_digest_80 rfl rfl ?_
          obtain ⟨a31, g32, h⟩ := bind_ok h
          refine q_getI cx fl_X11_150 g32 dX11_digest_81 ?_
          refine k_imul cx dX11_digest_84 ?_
          refine k_icmp_ge cx 111 dX11_digest_85 (by decide) (fun c33 => ?_) (fun c33 => ?_)
          · have h := ite_t h c33
            refine k_sub [0] rfl ?_
            obtain rfl := Option.some.inj h
            exact Kx30
          · have h := ite_f h c33
            refine k_aload_n cx 0 dX11_digest_88 rfl rfl ?_
            refine k_aload_n cx 0 dX11_digest_89 rfl rfl ?_
            refine k_iload_n cx 1 dX11_digest_90 rfl rfl ?_
            refine k_bipush cx 9 dX11_digest_91 (by decide) ?_
            obtain ⟨w34, g35, h⟩ := bind_ok h
            refine k_idiv cx dX11_digest_93 g35 ?_
            refine k_iload_n cx 1 dX11_digest_94 rfl rfl ?_
            refine k_bipush cx 9 dX11_digest_95 (by decide) ?_
            obtain ⟨w36, g37, h⟩ := bind_ok h
            refine k_irem cx dX11_digest_97 g37 ?_
            obtain ⟨q38, g39, h⟩ := bind_ok h
            refine k_callV cx iv_X11_197 (ci := 11) rfl (by decide) (w_X11_rowPart (dn_some g32).2 g39) g32 (As := [.int (v1 / 9), .int (v1 - v1 / 9 * 9)]) rfl rfl ⟨Nat.le_of_ble_eq_true rfl, Nat.le_of_ble_eq_true rfl⟩ (by simp [cat_rf, cat_i, cat_j]) dX11_digest_98 ?_
            refine k_i2l cx dX11_digest_101 ?_
            obtain ⟨q40, g41, h⟩ := bind_ok h
            refine k_callV cx iv_X11_248 (ci := 11) rfl (by decide) (w_X11_mixes (dn_some g32).2 g41) g32 (As := [.long ((q38).toInt64)]) rfl rfl ⟨Nat.le_of_ble_eq_true rfl, Nat.le_of_ble_eq_true rfl⟩ (by simp [cat_rf, cat_i, cat_j]) dX11_digest_102 ?_
            refine k_iinc cx 1 [(1, .int (v1 + 1)), (0, va_rf (some t))] (v1 + 1) dX11_digest_105 rfl rfl (by decide) (by simp [cat_rf, cat_i, cat_j]) ?_
            refine k_goto cx 77 dX11_digest_108 (by decide) ?_
            refine k_sub [1, 0] rfl ?_
            exact ihx30 _ _ h
      refine k_sub [1, 0] rfl ?_
      exact KLx30 FU _ _ hxx30
    have KLx13 : ∀ (n : Nat) (v1 : Int32) (τ : St), LX11_digest_37 n t v1 τ = some x13 → Og p l e s m args below meth c Γ 2 6 131 σ (some (.long ρ.1)) ρ.2 37 [(0, va_rf (some t)), (1, .int v1)] [] τ := by
      intro n
      induction n with
      | zero => intro _ _ h; cases (show (none : Option _) = some x13 from h)
      | succ n ihx13 =>
        intro v1 τ h
        rw [LX11_digest_37] at h
        refine k_iload_n cx 1 dX11_digest_37 rfl rfl ?_
        refine k_bipush cx 10 dX11_digest_38 (by decide) ?_
        refine k_aload_n cx 0 dX11_digest_40 rfl rfl ?_
        obtain ⟨a14, g15, h⟩ := bind_ok h
        refine q_getR cx fl_X11_7 g15 dX11_digest_41 ?_
        refine k_sipush cx 2040 dX11_digest_44 (by decide) ?_
        obtain ⟨a16, g17, h⟩ := bind_ok h
        obtain ⟨j18, g19, h⟩ := bind_ok h
        refine k_iald cx g17 g19 dX11_digest_47 ?_
        refine k_imul cx dX11_digest_48 ?_
        refine k_icmp_ge cx 75 dX11_digest_49 (by decide) (fun c20 => ?_) (fun c20 => ?_)
        · have h := ite_t h c20
          refine k_sub [0] rfl ?_
          obtain rfl := Option.some.inj h
          exact Kx13
        · have h := ite_f h c20
          refine k_aload_n cx 0 dX11_digest_52 rfl rfl ?_
          refine k_aload_n cx 0 dX11_digest_53 rfl rfl ?_
          refine k_iload_n cx 1 dX11_digest_54 rfl rfl ?_
          refine k_bipush cx 10 dX11_digest_55 (by decide) ?_
          obtain ⟨w21, g22, h⟩ := bind_ok h
          refine k_idiv cx dX11_digest_57 g22 ?_
          refine k_iload_n cx 1 dX11_digest_58 rfl rfl ?_
          refine k_bipush cx 10 dX11_digest_59 (by decide) ?_
          obtain ⟨w23, g24, h⟩ := bind_ok h
          refine k_irem cx dX11_digest_61 g24 ?_
          obtain ⟨q25, g26, h⟩ := bind_ok h
          refine k_callV cx iv_X11_191 (ci := 11) rfl (by decide) (w_X11_linePart (dn_some g15).2 g26) g15 (As := [.int (v1 / 10), .int (v1 - v1 / 10 * 10)]) rfl rfl ⟨Nat.le_of_ble_eq_true rfl, Nat.le_of_ble_eq_true rfl⟩ (by simp [cat_rf, cat_i, cat_j]) dX11_digest_62 ?_
          refine k_i2l cx dX11_digest_65 ?_
          obtain ⟨q27, g28, h⟩ := bind_ok h
          refine k_callV cx iv_X11_248 (ci := 11) rfl (by decide) (w_X11_mixes (dn_some g15).2 g28) g15 (As := [.long ((q25).toInt64)]) rfl rfl ⟨Nat.le_of_ble_eq_true rfl, Nat.le_of_ble_eq_true rfl⟩ (by simp [cat_rf, cat_i, cat_j]) dX11_digest_66 ?_
          refine k_iinc cx 1 [(1, .int (v1 + 1)), (0, va_rf (some t))] (v1 + 1) dX11_digest_69 rfl rfl (by decide) (by simp [cat_rf, cat_i, cat_j]) ?_
          refine k_goto cx 37 dX11_digest_72 (by decide) ?_
          refine k_sub [1, 0] rfl ?_
          exact ihx13 _ _ h
    refine k_sub [1, 0] rfl ?_
    exact KLx13 FU _ _ hxx13
  have KLx4 : ∀ (n : Nat) (v1 : Int32) (τ : St), LX11_digest_13 n t v1 τ = some x4 → Og p l e s m args below meth c Γ 2 6 131 σ (some (.long ρ.1)) ρ.2 13 [(0, va_rf (some t)), (1, .int v1)] [] τ := by
    intro n
    induction n with
    | zero => intro _ _ h; cases (show (none : Option _) = some x4 from h)
    | succ n ihx4 =>
      intro v1 τ h
      rw [LX11_digest_13] at h
      refine k_iload_n cx 1 dX11_digest_13 rfl rfl ?_
      refine k_bipush cx 16 dX11_digest_14 (by decide) ?_
      refine k_icmp_ge cx 35 dX11_digest_16 (by decide) (fun c5 => ?_) (fun c5 => ?_)
      · have h := ite_t h c5
        refine k_sub [0] rfl ?_
        obtain rfl := Option.some.inj h
        exact Kx4
      · have h := ite_f h c5
        refine k_aload_n cx 0 dX11_digest_19 rfl rfl ?_
        refine k_aload_n cx 0 dX11_digest_20 rfl rfl ?_
        refine k_iload_n cx 1 dX11_digest_21 rfl rfl ?_
        obtain ⟨a6, g7, h⟩ := bind_ok h
        obtain ⟨q8, g9, h⟩ := bind_ok h
        refine k_callV cx iv_X11_237 (ci := 11) rfl (by decide) (w_X11_number (dn_some g7).2 g9) g7 (As := [.int v1]) rfl rfl ⟨Nat.le_of_ble_eq_true rfl, Nat.le_of_ble_eq_true rfl⟩ (by simp [cat_rf, cat_i, cat_j]) dX11_digest_22 ?_
        refine k_i2l cx dX11_digest_25 ?_
        obtain ⟨q10, g11, h⟩ := bind_ok h
        refine k_callV cx iv_X11_248 (ci := 11) rfl (by decide) (w_X11_mixes (dn_some g7).2 g11) g7 (As := [.long ((q8).toInt64)]) rfl rfl ⟨Nat.le_of_ble_eq_true rfl, Nat.le_of_ble_eq_true rfl⟩ (by simp [cat_rf, cat_i, cat_j]) dX11_digest_26 ?_
        refine k_iinc cx 1 [(1, .int (v1 + 1)), (0, va_rf (some t))] (v1 + 1) dX11_digest_29 rfl rfl (by decide) (by simp [cat_rf, cat_i, cat_j]) ?_
        refine k_goto cx 13 dX11_digest_32 (by decide) ?_
        refine k_sub [1, 0] rfl ?_
        exact ihx4 _ _ h
  refine k_sub [1, 0] rfl ?_
  exact KLx4 FU _ _ hxx4

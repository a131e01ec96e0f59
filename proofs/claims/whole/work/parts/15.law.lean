/-! THE CLAIM OUT OF ONE WALK OF THE LAW'S BODY. Your part is whole_start (and what it stands on); all else here is the same for every law, but numbers. -/
def R_law : String := "PoemPagesLaw"
def lw_P (b : Addr) (xs : List Int32) (args : Array Value) (s : State) : Prop := args = #[.ref b] ∧ s.IntsAt b xs ∧ xs.length ≤ 2048 ∧ (Jvm.Cond.and given_1 narrow_1).before args s = true
def lw_Q (_ : Array Value) (s : State) (o : Outcome) (t : State) : Prop := o = .returned (some (.int 1)) ∧ Framed s o t [] 600000 7302250
def lw_Z (below : List Frame) (a : Array Value) (s : State) : State → Prop := fun t => ∃ o, t.status = .running ∧ Ended t below o ∧ lw_Q a s o t
/-- the law's own end, with 1 on the stack, nothing written that was there before, its room as the claim has it -/
theorem lw_ret {p : Program} {l : Launch} {e : Env} {s : State} {m : MethodId} {below : List Frame} {meth : Method} {c : Code} {b : Nat} (hx : p.tables.exec = Jvm.exec) (hb : c.code = code) (hr : meth.sig.returnType = ret) (hlocks : meth.locks = false) {pc : Nat} {H : Heap} {ls : Array Slot} (hdg : decode code pc = .ok (.ireturn, 1)) : W p l e room_1 s m #[Value.ref b] below meth c H [] 600000 7302250 (lw_Z below #[Value.ref b] s) (F0 m pc ls [.int 1]) := by
  intro T hT X
  obtain ⟨fs, hret, hrun, hended, hW, hframe⟩ := X.leave (v := some (.int 1)) (hlocks := hlocks) (fun h => by rw [hr] at h; cases h)
  have hmeth' : T.vm.method? m = some meth := X.method'
  refine ⟨T.setFrames fs, ?_, .returned (some (.int 1)), hrun, hended, rfl, ⟨_, rfl⟩, hW, hframe⟩
  jvm_step X.here [X.here.top, hx, hb, hdg, hmeth', hr, ret, narrow_b1]
  (try refine ⟨rfl, ?_⟩); (try refine ⟨rfl, ?_⟩)
  first | (intro acts; rw [hret _ acts rfl rfl rfl]) | rw [hret _ _ rfl rfl rfl]
  exact Steps.refl _
/-- what holds at the law's entry: the machine, the code, the tables' words (any of lw_tbl by 'hts w (by decide +kernel)'), the script of L ints xs at the cell b, what the Statement gives of the start (any of its parts by flat_of_before) -/
def lw_At (p : Program) (s : State) (m : MethodId) (meth : Method) (c : Code) (b L : Nat) (xs : Nat → Int32) : Prop :=
  p.tables.exec = Jvm.exec ∧ c.code = code ∧ meth.sig.returnType = ret ∧ c.maxLocals = 4 ∧ s.vm.findClass R_law = some m.cls ∧ (∀ w ∈ lw_tbl, w.before #[Value.ref b] s = true) ∧ va_X b L xs s s.heap ∧ b < s.heap.size ∧ meth.locks = false ∧ (Jvm.Cond.and given_1 narrow_1).before #[Value.ref b] s = true
theorem law_v {v : Int32} {σ : St} {ρ : Int32 × St} (h : (v, σ) = ρ) (h1 : ρ.1 = 1) : v = 1 := by subst h; exact h1
abbrev Ol (p : Program) (l : Launch) (e : Env) (s : State) (m : MethodId) (b : Nat) (below : List Frame) (meth : Method) (c : Code) (Γ : GE) (pc : Nat) (L : List (Nat × Value)) (st : List Value) (σ : St) : Prop :=
  Ok p l e room_1 s m #[Value.ref b] below meth c Γ 4 (lw_Z below #[Value.ref b] s) pc L st σ
theorem k_lawret {p : Program} {l : Launch} {e : Env} {s : State} {m : MethodId} {b pc : Nat} {below : List Frame} {meth : Method} {c : Code} {Γ : GE} {σ0 σ : St} {L : List (Nat × Value)} (cx : Cx p room_1 s m #[Value.ref b] c Γ 4 σ0 cL_law RL) (hr : meth.sig.returnType = ret) (hlk : meth.locks = false) (hb : s.heap.size = gB Γ) {v : Int32} (hv : v = 1) (hd : decode cL_law pc = .ok (.ireturn, 1)) : Ol p l e s m b below meth c Γ pc L [.int v] σ := by
  subst hv
  intro H locs ls hR hL hls
  refine va_forget (fun q hq => by rw [hb]; exact hL q hq) ?_
  exact lw_ret cx.1 cx.2.1 hr hlk hd
set_option maxRecDepth 100000 in
set_option maxHeartbeats 8000000 in
theorem w_L_law {p : Program} {l : Launch} {e : Env} {s : State} {m : MethodId} {b : Nat} {below : List Frame} {meth : Method} {c : Code} {Γ : GE} {σ : St} {p1 : Option Nat} {ρ : Int32 × St} (cx : Cx p room_1 s m #[Value.ref b] c Γ 4 σ cL_law RL) (hr : meth.sig.returnType = ret) (hlk : meth.locks = false) (hb : s.heap.size = gB Γ) (h1 : ρ.1 = 1) (h : f_L_law σ p1 = some ρ) : Ol p l e s m b below meth c Γ 0 [(0, va_rf p1)] [] σ := by
  unfold f_L_law at h
  obtain ⟨σ1, g2, h⟩ := bind_ok h
  refine k_new cx nw_L_7 g2 dL_law_0 ?_
  refine k_dup cx (by simp [cat_rf, cat_i, cat_j]) dL_law_3 ?_
  obtain ⟨a3, g4, h⟩ := bind_ok h
  obtain ⟨q5, g6, h⟩ := bind_ok h
  refine k_callI cx iv_L_9 (w_X10_init (dn_some g4).2 g6) (dn_some g4).1 (As := []) rfl rfl ⟨Nat.le_of_ble_eq_true rfl, Nat.le_of_ble_eq_true rfl⟩ (by simp [cat_rf, cat_i, cat_j]) dL_law_4 ?_
  refine k_astore_n cx (i := 1) [(1, va_rf (some (hpN σ))), (0, va_rf p1)] dL_law_7 rfl (by decide) (by simp [cat_rf, cat_i, cat_j]) ?_
  obtain ⟨σ7, g8, h⟩ := bind_ok h
  refine k_new cx nw_L_10 g8 dL_law_8 ?_
  refine k_dup cx (by simp [cat_rf, cat_i, cat_j]) dL_law_11 ?_
  obtain ⟨a9, g10, h⟩ := bind_ok h
  obtain ⟨q11, g12, h⟩ := bind_ok h
  refine k_callI cx iv_L_12 (w_X11_init (dn_some g10).2 g12) (dn_some g10).1 (As := []) rfl rfl ⟨Nat.le_of_ble_eq_true rfl, Nat.le_of_ble_eq_true rfl⟩ (by simp [cat_rf, cat_i, cat_j]) dL_law_12 ?_
  refine k_astore_n cx (i := 2) [(2, va_rf (some (hpN q5))), (1, va_rf (some (hpN σ))), (0, va_rf p1)] dL_law_15 rfl (by decide) (by simp [cat_rf, cat_i, cat_j]) ?_
  refine k_iconst cx 0 dL_law_16 (by decide) ?_
  refine k_istore_n cx (i := 3) [(3, .int 0), (2, va_rf (some (hpN q5))), (1, va_rf (some (hpN σ))), (0, va_rf p1)] dL_law_17 rfl (by decide) (by simp [cat_rf, cat_i, cat_j]) ?_
  obtain ⟨x14, hxx14, Hx14⟩ := sb_ok h
  have Kx14 : ∀ wx14, .inr wx14 = x14 → Ol p l e s m b below meth c Γ 724 [] [] wx14 := by
    intro wx14 hw
    have h := sb_inr hw Hx14
    refine k_iconst cx 1 dL_law_724 (by decide) ?_
    have h := Option.some.inj h
    exact k_lawret cx hr hlk hb (law_v h h1) dL_law_725
  have KLx14 : ∀ (n : Nat) (v3 : Int32) (τ : St), LL_law_18 n p1 (some (hpN σ)) (some (hpN q5)) v3 τ = some x14 → Ol p l e s m b below meth c Γ 18 [(0, va_rf p1), (1, va_rf (some (hpN σ))), (2, va_rf (some (hpN q5))), (3, .int v3)] [] τ := by
    intro n
    induction n with
    | zero => intro _ _ h; cases (show (none : Option _) = some x14 from h)
    | succ n ihx14 =>
      intro v3 τ h
      rw [LL_law_18] at h
      refine k_iload_n cx 3 dL_law_18 rfl rfl ?_
      refine k_aload_n cx 0 dL_law_19 rfl rfl ?_
      obtain ⟨a15, g16, h⟩ := bind_ok h
      refine k_alenA cx g16 dL_law_20 ?_
      refine k_iconst cx 4 dL_law_21 (by decide) ?_
      refine k_isub cx dL_law_22 ?_
      refine k_icmp_gt cx 724 dL_law_23 (by decide) (fun c17 => ?_) (fun c17 => ?_)
      · have h := ite_t h c17
        refine k_sub [] rfl ?_
        exact Kx14 _ (Option.some.inj h)
      · have h := ite_f h c17
        refine k_aload_n cx 0 dL_law_26 rfl rfl ?_
        refine k_iload_n cx 3 dL_law_27 rfl rfl ?_
        obtain ⟨j18, g19, h⟩ := bind_ok h
        refine k_iald cx g16 g19 dL_law_28 ?_
        refine k_bipush cx 31 dL_law_29 (by decide) ?_
        refine k_iand cx dL_law_31 ?_
        obtain ⟨x20, hxx20, Hx20⟩ := sb_ok h
        have Kx20 : ∀ wx20 : St, .inr wx20 = x20 → Ol p l e s m b below meth c Γ 718 [(0, va_rf p1), (1, va_rf (some (hpN σ))), (2, va_rf (some (hpN q5))), (3, .int v3)] [] wx20 := by
          intro wx20 hw
          have h := sb_inr hw Hx20
          refine k_iinc cx 3 [(3, .int (v3 + 4)), (0, va_rf p1), (1, va_rf (some (hpN σ))), (2, va_rf (some (hpN q5)))] (v3 + 4) dL_law_718 rfl rfl (by decide) (by simp [cat_rf, cat_i, cat_j]) ?_
          refine k_goto cx 18 dL_law_721 (by decide) ?_
          refine k_sub [1, 2, 3, 0] rfl ?_
          exact ihx14 _ _ h
        have h := hxx20
        refine k_switch cx dL_law_32 (by decide) (fun hs => ?_) (by decide) (fun k off ho hs => ?_)
        · have h0 : ¬ ((hpA τ a15 j18) &&& 31) = 0 := fun q => by rw [q] at hs; revert hs; decide
          have h1 : ¬ ((hpA τ a15 j18) &&& 31) = 1 := fun q => by rw [q] at hs; revert hs; decide
          have h2 : ¬ ((hpA τ a15 j18) &&& 31) = 2 := fun q => by rw [q] at hs; revert hs; decide
          have h3 : ¬ ((hpA τ a15 j18) &&& 31) = 3 := fun q => by rw [q] at hs; revert hs; decide
          have h4 : ¬ ((hpA τ a15 j18) &&& 31) = 4 := fun q => by rw [q] at hs; revert hs; decide
          have h5 : ¬ ((hpA τ a15 j18) &&& 31) = 5 := fun q => by rw [q] at hs; revert hs; decide
          have h6 : ¬ ((hpA τ a15 j18) &&& 31) = 6 := fun q => by rw [q] at hs; revert hs; decide
          have h7 : ¬ ((hpA τ a15 j18) &&& 31) = 7 := fun q => by rw [q] at hs; revert hs; decide
          have h8 : ¬ ((hpA τ a15 j18) &&& 31) = 8 := fun q => by rw [q] at hs; revert hs; decide
          have h9 : ¬ ((hpA τ a15 j18) &&& 31) = 9 := fun q => by rw [q] at hs; revert hs; decide
          have h10 : ¬ ((hpA τ a15 j18) &&& 31) = 10 := fun q => by rw [q] at hs; revert hs; decide
          have h11 : ¬ ((hpA τ a15 j18) &&& 31) = 11 := fun q => by rw [q] at hs; revert hs; decide
          have h12 : ¬ ((hpA τ a15 j18) &&& 31) = 12 := fun q => by rw [q] at hs; revert hs; decide
          have h13 : ¬ ((hpA τ a15 j18) &&& 31) = 13 := fun q => by rw [q] at hs; revert hs; decide
          have h14 : ¬ ((hpA τ a15 j18) &&& 31) = 14 := fun q => by rw [q] at hs; revert hs; decide
          have h15 : ¬ ((hpA τ a15 j18) &&& 31) = 15 := fun q => by rw [q] at hs; revert hs; decide
          have h16 : ¬ ((hpA τ a15 j18) &&& 31) = 16 := fun q => by rw [q] at hs; revert hs; decide
          have h17 : ¬ ((hpA τ a15 j18) &&& 31) = 17 := fun q => by rw [q] at hs; revert hs; decide
          have h18 : ¬ ((hpA τ a15 j18) &&& 31) = 18 := fun q => by rw [q] at hs; revert hs; decide
          have h19 : ¬ ((hpA τ a15 j18) &&& 31) = 19 := fun q => by rw [q] at hs; revert hs; decide
          have h20 : ¬ ((hpA τ a15 j18) &&& 31) = 20 := fun q => by rw [q] at hs; revert hs; decide
          have h := ite_f h h0
          have h := ite_f h h1
          have h := ite_f h h2
          have h := ite_f h h3
          have h := ite_f h h4
          have h := ite_f h h5
          have h := ite_f h h6
          have h := ite_f h h7
          have h := ite_f h h8
          have h := ite_f h h9
          have h := ite_f h h10
          have h := ite_f h h11
          have h := ite_f h h12
          have h := ite_f h h13
          have h := ite_f h h14
          have h := ite_f h h15
          have h := ite_f h h16
          have h := ite_f h h17
          have h := ite_f h h18
          have h := ite_f h h19
          have h := ite_f h h20
          exact Kx20 _ (Option.some.inj h)
        · match k, ho with
          | 0, ho =>
            cases ho
            have hv : ((hpA τ a15 j18) &&& 31) = 0 := Int32.toInt_inj.mp (by rw [hs]; rfl)
            have h := ite_t h hv
            refine ⟨by decide, ?_⟩
            refine k_aload_n cx 1 dL_law_132 rfl rfl ?_
            refine k_aload_n cx 0 dL_law_133 rfl rfl ?_
            refine k_iload_n cx 3 dL_law_134 rfl rfl ?_
            refine k_iconst cx 1 dL_law_135 (by decide) ?_
            refine k_iadd cx dL_law_136 ?_
            obtain ⟨j21, g22, h⟩ := bind_ok h
            refine k_iald cx g16 g22 dL_law_137 ?_
            obtain ⟨a23, g24, h⟩ := bind_ok h
            obtain ⟨q25, g26, h⟩ := bind_ok h
            refine k_callV cx iv_L_13 (ci := 10) rfl (by decide) (w_X10_type (dn_some g24).2 g26) g24 (As := [.int (hpA τ a15 j21)]) rfl rfl ⟨Nat.le_of_ble_eq_true rfl, Nat.le_of_ble_eq_true rfl⟩ (by simp [cat_rf, cat_i, cat_j]) dL_law_138 ?_
            refine k_aload_n cx 2 dL_law_141 rfl rfl ?_
            refine k_aload_n cx 0 dL_law_142 rfl rfl ?_
            refine k_iload_n cx 3 dL_law_143 rfl rfl ?_
            refine k_iconst cx 1 dL_law_144 (by decide) ?_
            refine k_iadd cx dL_law_145 ?_
            obtain ⟨a27, g28, h⟩ := bind_ok h
            obtain ⟨j29, g30, h⟩ := bind_ok h
            refine k_iald cx g28 g30 dL_law_146 ?_
            obtain ⟨a31, g32, h⟩ := bind_ok h
            obtain ⟨q33, g34, h⟩ := bind_ok h
            refine k_callV cx iv_L_17 (ci := 11) rfl (by decide) (w_X11_type (dn_some g32).2 g34) g32 (As := [.int (hpA q25.2 a27 j29)]) rfl rfl ⟨Nat.le_of_ble_eq_true rfl, Nat.le_of_ble_eq_true rfl⟩ (by simp [cat_rf, cat_i, cat_j]) dL_law_147 ?_
            refine k_icmp_eq cx 718 dL_law_150 (by decide) (fun c35 => ?_) (fun c35 => ?_)
            · have h := ite_t h c35
              exact Kx20 _ (Option.some.inj h)
            · have h := ite_f h c35
              refine k_iconst cx 0 dL_law_153 (by decide) ?_
              have h := Option.some.inj h
              have h := sb_ret h Hx20
              have h := sb_ret h Hx14
              exact k_lawret cx hr hlk hb (law_v h h1) dL_law_154
          | 1, ho =>
            cases ho
            have hv : ((hpA τ a15 j18) &&& 31) = 1 := Int32.toInt_inj.mp (by rw [hs]; rfl)
            have h := ite_f h (show ¬ ((hpA τ a15 j18) &&& 31) = 0 from fun q => by rw [hv] at q; revert q; decide)
            have h := ite_t h hv
            refine ⟨by decide, ?_⟩
            refine k_aload_n cx 1 dL_law_155 rfl rfl ?_
            obtain ⟨a36, g37, h⟩ := bind_ok h
            obtain ⟨q38, g39, h⟩ := bind_ok h
            refine k_callV cx iv_L_18 (ci := 10) rfl (by decide) (w_X10_clear (dn_some g37).2 g39) g37 (As := []) rfl rfl ⟨Nat.le_of_ble_eq_true rfl, Nat.le_of_ble_eq_true rfl⟩ (by simp [cat_rf, cat_i, cat_j]) dL_law_156 ?_
            refine k_aload_n cx 2 dL_law_159 rfl rfl ?_
            obtain ⟨a40, g41, h⟩ := bind_ok h
            obtain ⟨q42, g43, h⟩ := bind_ok h
            refine k_callV cx iv_L_22 (ci := 11) rfl (by decide) (w_X11_clear (dn_some g41).2 g43) g41 (As := []) rfl rfl ⟨Nat.le_of_ble_eq_true rfl, Nat.le_of_ble_eq_true rfl⟩ (by simp [cat_rf, cat_i, cat_j]) dL_law_160 ?_
            refine k_icmp_eq cx 718 dL_law_163 (by decide) (fun c44 => ?_) (fun c44 => ?_)
            · have h := ite_t h c44
              exact Kx20 _ (Option.some.inj h)
            · have h := ite_f h c44
              refine k_iconst cx 0 dL_law_166 (by decide) ?_
              have h := Option.some.inj h
              have h := sb_ret h Hx20
              have h := sb_ret h Hx14
              exact k_lawret cx hr hlk hb (law_v h h1) dL_law_167
          | 2, ho =>
            cases ho
            have hv : ((hpA τ a15 j18) &&& 31) = 2 := Int32.toInt_inj.mp (by rw [hs]; rfl)
            have h := ite_f h (show ¬ ((hpA τ a15 j18) &&& 31) = 0 from fun q => by rw [hv] at q; revert q; decide)
            have h := ite_f h (show ¬ ((hpA τ a15 j18) &&& 31) = 1 from fun q => by rw [hv] at q; revert q; decide)
            have h := ite_t h hv
            refine ⟨by decide, ?_⟩
            refine k_aload_n cx 1 dL_law_168 rfl rfl ?_
            refine k_aload_n cx 0 dL_law_169 rfl rfl ?_
            refine k_iload_n cx 3 dL_law_170 rfl rfl ?_
            refine k_iconst cx 1 dL_law_171 (by decide) ?_
            refine k_iadd cx dL_law_172 ?_
            obtain ⟨j45, g46, h⟩ := bind_ok h
            refine k_iald cx g16 g46 dL_law_173 ?_
            obtain ⟨x47, hxx47, h⟩ := bind_ok h
            have Kx47 : Ol p l e s m b below meth c Γ 182 [(0, va_rf p1), (1, va_rf (some (hpN σ))), (2, va_rf (some (hpN q5))), (3, .int v3)] [.int x47, va_rf (some (hpN σ))] τ := by
              obtain ⟨a49, g50, h⟩ := bind_ok h
              obtain ⟨q51, g52, h⟩ := bind_ok h
              refine k_callV cx iv_L_23 (ci := 10) rfl (by decide) (w_X10_fault (dn_some g50).2 g52) g50 (As := [.int x47]) rfl rfl ⟨Nat.le_of_ble_eq_true rfl, Nat.le_of_ble_eq_true rfl⟩ (by simp [cat_rf, cat_i, cat_j]) dL_law_182 ?_
              refine k_aload_n cx 2 dL_law_185 rfl rfl ?_
              refine k_aload_n cx 0 dL_law_186 rfl rfl ?_
              refine k_iload_n cx 3 dL_law_187 rfl rfl ?_
              refine k_iconst cx 1 dL_law_188 (by decide) ?_
              refine k_iadd cx dL_law_189 ?_
              obtain ⟨j53, g54, h⟩ := bind_ok h
              refine k_iald cx g16 g54 dL_law_190 ?_
              obtain ⟨x55, hxx55, h⟩ := bind_ok h
              have Kx55 : Ol p l e s m b below meth c Γ 199 [(0, va_rf p1), (1, va_rf (some (hpN σ))), (2, va_rf (some (hpN q5))), (3, .int v3)] [.int x55, va_rf (some (hpN q5)), .int q51] τ := by
                obtain ⟨a57, g58, h⟩ := bind_ok h
                obtain ⟨q59, g60, h⟩ := bind_ok h
                refine k_callV cx iv_L_27 (ci := 11) rfl (by decide) (w_X11_fault (dn_some g58).2 g60) g58 (As := [.int x55]) rfl rfl ⟨Nat.le_of_ble_eq_true rfl, Nat.le_of_ble_eq_true rfl⟩ (by simp [cat_rf, cat_i, cat_j]) dL_law_199 ?_
                refine k_icmp_eq cx 718 dL_law_202 (by decide) (fun c61 => ?_) (fun c61 => ?_)
                · have h := ite_t h c61
                  exact Kx20 _ (Option.some.inj h)
                · have h := ite_f h c61
                  refine k_iconst cx 0 dL_law_205 (by decide) ?_
                  have h := Option.some.inj h
                  have h := sb_ret h Hx20
                  have h := sb_ret h Hx14
                  exact k_lawret cx hr hlk hb (law_v h h1) dL_law_206
              have h := hxx55
              refine k_if_eq cx 198 dL_law_191 (by decide) (fun c56 => ?_) (fun c56 => ?_)
              · have h := ite_t h c56
                refine k_iconst cx 0 dL_law_198 (by decide) ?_
                obtain rfl := Option.some.inj h
                exact Kx55
              · have h := ite_f h c56
                refine k_iconst cx 1 dL_law_194 (by decide) ?_
                refine k_goto cx 199 dL_law_195 (by decide) ?_
                obtain rfl := Option.some.inj h
                exact Kx55
            have h := hxx47
            refine k_if_eq cx 181 dL_law_174 (by decide) (fun c48 => ?_) (fun c48 => ?_)
            · have h := ite_t h c48
              refine k_iconst cx 0 dL_law_181 (by decide) ?_
              obtain rfl := Option.some.inj h
              exact Kx47
            · have h := ite_f h c48
              refine k_iconst cx 1 dL_law_177 (by decide) ?_
              refine k_goto cx 182 dL_law_178 (by decide) ?_
              obtain rfl := Option.some.inj h
              exact Kx47
          | 3, ho =>
            cases ho
            have hv : ((hpA τ a15 j18) &&& 31) = 3 := Int32.toInt_inj.mp (by rw [hs]; rfl)
            have h := ite_f h (show ¬ ((hpA τ a15 j18) &&& 31) = 0 from fun q => by rw [hv] at q; revert q; decide)
            have h := ite_f h (show ¬ ((hpA τ a15 j18) &&& 31) = 1 from fun q => by rw [hv] at q; revert q; decide)
            have h := ite_f h (show ¬ ((hpA τ a15 j18) &&& 31) = 2 from fun q => by rw [hv] at q; revert q; decide)
            have h := ite_t h hv
            refine ⟨by decide, ?_⟩
            refine k_aload_n cx 1 dL_law_207 rfl rfl ?_
            refine k_aload_n cx 0 dL_law_208 rfl rfl ?_
            refine k_iload_n cx 3 dL_law_209 rfl rfl ?_
            refine k_iconst cx 1 dL_law_210 (by decide) ?_
            refine k_iadd cx dL_law_211 ?_
            obtain ⟨j62, g63, h⟩ := bind_ok h
            refine k_iald cx g16 g63 dL_law_212 ?_
            obtain ⟨a64, g65, h⟩ := bind_ok h
            obtain ⟨q66, g67, h⟩ := bind_ok h
            refine k_callV cx iv_L_28 (ci := 10) rfl (by decide) (w_X10_insert (dn_some g65).2 g67) g65 (As := [.int (hpA τ a15 j62)]) rfl rfl ⟨Nat.le_of_ble_eq_true rfl, Nat.le_of_ble_eq_true rfl⟩ (by simp [cat_rf, cat_i, cat_j]) dL_law_213 ?_
            refine k_aload_n cx 2 dL_law_216 rfl rfl ?_
            refine k_aload_n cx 0 dL_law_217 rfl rfl ?_
            refine k_iload_n cx 3 dL_law_218 rfl rfl ?_
            refine k_iconst cx 1 dL_law_219 (by decide) ?_
            refine k_iadd cx dL_law_220 ?_
            obtain ⟨a68, g69, h⟩ := bind_ok h
            obtain ⟨j70, g71, h⟩ := bind_ok h
            refine k_iald cx g69 g71 dL_law_221 ?_
            obtain ⟨a72, g73, h⟩ := bind_ok h
            obtain ⟨q74, g75, h⟩ := bind_ok h
            refine k_callV cx iv_L_31 (ci := 11) rfl (by decide) (w_X11_insert (dn_some g73).2 g75) g73 (As := [.int (hpA q66.2 a68 j70)]) rfl rfl ⟨Nat.le_of_ble_eq_true rfl, Nat.le_of_ble_eq_true rfl⟩ (by simp [cat_rf, cat_i, cat_j]) dL_law_222 ?_
            refine k_icmp_eq cx 718 dL_law_225 (by decide) (fun c76 => ?_) (fun c76 => ?_)
            · have h := ite_t h c76
              exact Kx20 _ (Option.some.inj h)
            · have h := ite_f h c76
              refine k_iconst cx 0 dL_law_228 (by decide) ?_
              have h := Option.some.inj h
              have h := sb_ret h Hx20
              have h := sb_ret h Hx14
              exact k_lawret cx hr hlk hb (law_v h h1) dL_law_229
          | 4, ho =>
            cases ho
            have hv : ((hpA τ a15 j18) &&& 31) = 4 := Int32.toInt_inj.mp (by rw [hs]; rfl)
            have h := ite_f h (show ¬ ((hpA τ a15 j18) &&& 31) = 0 from fun q => by rw [hv] at q; revert q; decide)
            have h := ite_f h (show ¬ ((hpA τ a15 j18) &&& 31) = 1 from fun q => by rw [hv] at q; revert q; decide)
            have h := ite_f h (show ¬ ((hpA τ a15 j18) &&& 31) = 2 from fun q => by rw [hv] at q; revert q; decide)
            have h := ite_f h (show ¬ ((hpA τ a15 j18) &&& 31) = 3 from fun q => by rw [hv] at q; revert q; decide)
            have h := ite_t h hv
            refine ⟨by decide, ?_⟩
            refine k_aload_n cx 1 dL_law_230 rfl rfl ?_
            refine k_aload_n cx 0 dL_law_231 rfl rfl ?_
            refine k_iload_n cx 3 dL_law_232 rfl rfl ?_
            refine k_iconst cx 1 dL_law_233 (by decide) ?_
            refine k_iadd cx dL_law_234 ?_
            obtain ⟨j77, g78, h⟩ := bind_ok h
            refine k_iald cx g16 g78 dL_law_235 ?_
            obtain ⟨a79, g80, h⟩ := bind_ok h
            obtain ⟨q81, g82, h⟩ := bind_ok h
            refine k_callV cx iv_L_32 (ci := 10) rfl (by decide) (w_X10_replace (dn_some g80).2 g82) g80 (As := [.int (hpA τ a15 j77)]) rfl rfl ⟨Nat.le_of_ble_eq_true rfl, Nat.le_of_ble_eq_true rfl⟩ (by simp [cat_rf, cat_i, cat_j]) dL_law_236 ?_
            refine k_aload_n cx 2 dL_law_239 rfl rfl ?_
            refine k_aload_n cx 0 dL_law_240 rfl rfl ?_
            refine k_iload_n cx 3 dL_law_241 rfl rfl ?_
            refine k_iconst cx 1 dL_law_242 (by decide) ?_
            refine k_iadd cx dL_law_243 ?_
            obtain ⟨a83, g84, h⟩ := bind_ok h
            obtain ⟨j85, g86, h⟩ := bind_ok h
            refine k_iald cx g84 g86 dL_law_244 ?_
            obtain ⟨a87, g88, h⟩ := bind_ok h
            obtain ⟨q89, g90, h⟩ := bind_ok h
            refine k_callV cx iv_L_35 (ci := 11) rfl (by decide) (w_X11_replace (dn_some g88).2 g90) g88 (As := [.int (hpA q81.2 a83 j85)]) rfl rfl ⟨Nat.le_of_ble_eq_true rfl, Nat.le_of_ble_eq_true rfl⟩ (by simp [cat_rf, cat_i, cat_j]) dL_law_245 ?_
            refine k_icmp_eq cx 718 dL_law_248 (by decide) (fun c91 => ?_) (fun c91 => ?_)
            · have h := ite_t h c91
              exact Kx20 _ (Option.some.inj h)
            · have h := ite_f h c91
              refine k_iconst cx 0 dL_law_251 (by decide) ?_
              have h := Option.some.inj h
              have h := sb_ret h Hx20
              have h := sb_ret h Hx14
              exact k_lawret cx hr hlk hb (law_v h h1) dL_law_252
          | 5, ho =>
            cases ho
            have hv : ((hpA τ a15 j18) &&& 31) = 5 := Int32.toInt_inj.mp (by rw [hs]; rfl)
            have h := ite_f h (show ¬ ((hpA τ a15 j18) &&& 31) = 0 from fun q => by rw [hv] at q; revert q; decide)
            have h := ite_f h (show ¬ ((hpA τ a15 j18) &&& 31) = 1 from fun q => by rw [hv] at q; revert q; decide)
            have h := ite_f h (show ¬ ((hpA τ a15 j18) &&& 31) = 2 from fun q => by rw [hv] at q; revert q; decide)
            have h := ite_f h (show ¬ ((hpA τ a15 j18) &&& 31) = 3 from fun q => by rw [hv] at q; revert q; decide)
            have h := ite_f h (show ¬ ((hpA τ a15 j18) &&& 31) = 4 from fun q => by rw [hv] at q; revert q; decide)
            have h := ite_t h hv
            refine ⟨by decide, ?_⟩
            refine k_aload_n cx 1 dL_law_253 rfl rfl ?_
            refine k_aload_n cx 0 dL_law_254 rfl rfl ?_
            refine k_iload_n cx 3 dL_law_255 rfl rfl ?_
            refine k_iconst cx 1 dL_law_256 (by decide) ?_
            refine k_iadd cx dL_law_257 ?_
            obtain ⟨j92, g93, h⟩ := bind_ok h
            refine k_iald cx g16 g93 dL_law_258 ?_
            obtain ⟨a94, g95, h⟩ := bind_ok h
            obtain ⟨q96, g97, h⟩ := bind_ok h
            refine k_callV cx iv_L_36 (ci := 10) rfl (by decide) (w_X10_remove (dn_some g95).2 g97) g95 (As := [.int (hpA τ a15 j92)]) rfl rfl ⟨Nat.le_of_ble_eq_true rfl, Nat.le_of_ble_eq_true rfl⟩ (by simp [cat_rf, cat_i, cat_j]) dL_law_259 ?_
            refine k_aload_n cx 2 dL_law_262 rfl rfl ?_
            refine k_aload_n cx 0 dL_law_263 rfl rfl ?_
            refine k_iload_n cx 3 dL_law_264 rfl rfl ?_
            refine k_iconst cx 1 dL_law_265 (by decide) ?_
            refine k_iadd cx dL_law_266 ?_
            obtain ⟨a98, g99, h⟩ := bind_ok h
            obtain ⟨j100, g101, h⟩ := bind_ok h
            refine k_iald cx g99 g101 dL_law_267 ?_
            obtain ⟨a102, g103, h⟩ := bind_ok h
            obtain ⟨q104, g105, h⟩ := bind_ok h
            refine k_callV cx iv_L_39 (ci := 11) rfl (by decide) (w_X11_remove (dn_some g103).2 g105) g103 (As := [.int (hpA q96.2 a98 j100)]) rfl rfl ⟨Nat.le_of_ble_eq_true rfl, Nat.le_of_ble_eq_true rfl⟩ (by simp [cat_rf, cat_i, cat_j]) dL_law_268 ?_
            refine k_icmp_eq cx 718 dL_law_271 (by decide) (fun c106 => ?_) (fun c106 => ?_)
            · have h := ite_t h c106
              exact Kx20 _ (Option.some.inj h)
            · have h := ite_f h c106
              refine k_iconst cx 0 dL_law_274 (by decide) ?_
              have h := Option.some.inj h
              have h := sb_ret h Hx20
              have h := sb_ret h Hx14
              exact k_lawret cx hr hlk hb (law_v h h1) dL_law_275
          | 6, ho =>
            cases ho
            have hv : ((hpA τ a15 j18) &&& 31) = 6 := Int32.toInt_inj.mp (by rw [hs]; rfl)
            have h := ite_f h (show ¬ ((hpA τ a15 j18) &&& 31) = 0 from fun q => by rw [hv] at q; revert q; decide)
            have h := ite_f h (show ¬ ((hpA τ a15 j18) &&& 31) = 1 from fun q => by rw [hv] at q; revert q; decide)
            have h := ite_f h (show ¬ ((hpA τ a15 j18) &&& 31) = 2 from fun q => by rw [hv] at q; revert q; decide)
            have h := ite_f h (show ¬ ((hpA τ a15 j18) &&& 31) = 3 from fun q => by rw [hv] at q; revert q; decide)
            have h := ite_f h (show ¬ ((hpA τ a15 j18) &&& 31) = 4 from fun q => by rw [hv] at q; revert q; decide)
            have h := ite_f h (show ¬ ((hpA τ a15 j18) &&& 31) = 5 from fun q => by rw [hv] at q; revert q; decide)
            have h := ite_t h hv
            refine ⟨by decide, ?_⟩
            refine k_aload_n cx 1 dL_law_276 rfl rfl ?_
            refine k_aload_n cx 0 dL_law_277 rfl rfl ?_
            refine k_iload_n cx 3 dL_law_278 rfl rfl ?_
            refine k_iconst cx 1 dL_law_279 (by decide) ?_
            refine k_iadd cx dL_law_280 ?_
            obtain ⟨j107, g108, h⟩ := bind_ok h
            refine k_iald cx g16 g108 dL_law_281 ?_
            refine k_aload_n cx 0 dL_law_282 rfl rfl ?_
            refine k_iload_n cx 3 dL_law_283 rfl rfl ?_
            refine k_iconst cx 2 dL_law_284 (by decide) ?_
            refine k_iadd cx dL_law_285 ?_
            obtain ⟨j109, g110, h⟩ := bind_ok h
            refine k_iald cx g16 g110 dL_law_286 ?_
            refine k_aload_n cx 0 dL_law_287 rfl rfl ?_
            refine k_iload_n cx 3 dL_law_288 rfl rfl ?_
            refine k_iconst cx 3 dL_law_289 (by decide) ?_
            refine k_iadd cx dL_law_290 ?_
            obtain ⟨j111, g112, h⟩ := bind_ok h
            refine k_iald cx g16 g112 dL_law_291 ?_
            obtain ⟨a113, g114, h⟩ := bind_ok h
            obtain ⟨q115, g116, h⟩ := bind_ok h
            refine k_callV cx iv_L_40 (ci := 10) rfl (by decide) (w_X10_move (dn_some g114).2 g116) g114 (As := [.int (hpA τ a15 j107), .int (hpA τ a15 j109), .int (hpA τ a15 j111)]) rfl rfl ⟨Nat.le_of_ble_eq_true rfl, Nat.le_of_ble_eq_true rfl⟩ (by simp [cat_rf, cat_i, cat_j]) dL_law_292 ?_
            refine k_aload_n cx 2 dL_law_295 rfl rfl ?_
            refine k_aload_n cx 0 dL_law_296 rfl rfl ?_
            refine k_iload_n cx 3 dL_law_297 rfl rfl ?_
            refine k_iconst cx 1 dL_law_298 (by decide) ?_
            refine k_iadd cx dL_law_299 ?_
            obtain ⟨a117, g118, h⟩ := bind_ok h
            obtain ⟨j119, g120, h⟩ := bind_ok h
            refine k_iald cx g118 g120 dL_law_300 ?_
            refine k_aload_n cx 0 dL_law_301 rfl rfl ?_
            refine k_iload_n cx 3 dL_law_302 rfl rfl ?_
            refine k_iconst cx 2 dL_law_303 (by decide) ?_
            refine k_iadd cx dL_law_304 ?_
            obtain ⟨j121, g122, h⟩ := bind_ok h
            refine k_iald cx g118 g122 dL_law_305 ?_
            refine k_aload_n cx 0 dL_law_306 rfl rfl ?_
            refine k_iload_n cx 3 dL_law_307 rfl rfl ?_
            refine k_iconst cx 3 dL_law_308 (by decide) ?_
            refine k_iadd cx dL_law_309 ?_
            obtain ⟨j123, g124, h⟩ := bind_ok h
            refine k_iald cx g118 g124 dL_law_310 ?_
            obtain ⟨a125, g126, h⟩ := bind_ok h
            obtain ⟨q127, g128, h⟩ := bind_ok h
            refine k_callV cx iv_L_44 (ci := 11) rfl (by decide) (w_X11_move (dn_some g126).2 g128) g126 (As := [.int (hpA q115.2 a117 j119), .int (hpA q115.2 a117 j121), .int (hpA q115.2 a117 j123)]) rfl rfl ⟨Nat.le_of_ble_eq_true rfl, Nat.le_of_ble_eq_true rfl⟩ (by simp [cat_rf, cat_i, cat_j]) dL_law_311 ?_
            refine k_icmp_eq cx 718 dL_law_314 (by decide) (fun c129 => ?_) (fun c129 => ?_)
            · have h := ite_t h c129
              exact Kx20 _ (Option.some.inj h)
            · have h := ite_f h c129
              refine k_iconst cx 0 dL_law_317 (by decide) ?_
              have h := Option.some.inj h
              have h := sb_ret h Hx20
              have h := sb_ret h Hx14
              exact k_lawret cx hr hlk hb (law_v h h1) dL_law_318
          | 7, ho =>
            cases ho
            have hv : ((hpA τ a15 j18) &&& 31) = 7 := Int32.toInt_inj.mp (by rw [hs]; rfl)
            have h := ite_f h (show ¬ ((hpA τ a15 j18) &&& 31) = 0 from fun q => by rw [hv] at q; revert q; decide)
            have h := ite_f h (show ¬ ((hpA τ a15 j18) &&& 31) = 1 from fun q => by rw [hv] at q; revert q; decide)
            have h := ite_f h (show ¬ ((hpA τ a15 j18) &&& 31) = 2 from fun q => by rw [hv] at q; revert q; decide)
            have h := ite_f h (show ¬ ((hpA τ a15 j18) &&& 31) = 3 from fun q => by rw [hv] at q; revert q; decide)
            have h := ite_f h (show ¬ ((hpA τ a15 j18) &&& 31) = 4 from fun q => by rw [hv] at q; revert q; decide)
            have h := ite_f h (show ¬ ((hpA τ a15 j18) &&& 31) = 5 from fun q => by rw [hv] at q; revert q; decide)
            have h := ite_f h (show ¬ ((hpA τ a15 j18) &&& 31) = 6 from fun q => by rw [hv] at q; revert q; decide)
            have h := ite_t h hv
            refine ⟨by decide, ?_⟩
            refine k_aload_n cx 1 dL_law_319 rfl rfl ?_
            refine k_aload_n cx 0 dL_law_320 rfl rfl ?_
            refine k_iload_n cx 3 dL_law_321 rfl rfl ?_
            refine k_iconst cx 1 dL_law_322 (by decide) ?_
            refine k_iadd cx dL_law_323 ?_
            obtain ⟨j130, g131, h⟩ := bind_ok h
            refine k_iald cx g16 g131 dL_law_324 ?_
            refine k_aload_n cx 0 dL_law_325 rfl rfl ?_
            refine k_iload_n cx 3 dL_law_326 rfl rfl ?_
            refine k_iconst cx 2 dL_law_327 (by decide) ?_
            refine k_iadd cx dL_law_328 ?_
            obtain ⟨j132, g133, h⟩ := bind_ok h
            refine k_iald cx g16 g133 dL_law_329 ?_
            obtain ⟨x134, hxx134, h⟩ := bind_ok h
            have Kx134 : Ol p l e s m b below meth c Γ 338 [(0, va_rf p1), (1, va_rf (some (hpN σ))), (2, va_rf (some (hpN q5))), (3, .int v3)] [.int x134, .int (hpA τ a15 j130), va_rf (some (hpN σ))] τ := by
              obtain ⟨a136, g137, h⟩ := bind_ok h
              obtain ⟨q138, g139, h⟩ := bind_ok h
              refine k_callV cx iv_L_45 (ci := 10) rfl (by decide) (w_X10_toggle (dn_some g137).2 g139) g137 (As := [.int (hpA τ a15 j130), .int x134]) rfl rfl ⟨Nat.le_of_ble_eq_true rfl, Nat.le_of_ble_eq_true rfl⟩ (by simp [cat_rf, cat_i, cat_j]) dL_law_338 ?_
              refine k_aload_n cx 2 dL_law_341 rfl rfl ?_
              refine k_aload_n cx 0 dL_law_342 rfl rfl ?_
              refine k_iload_n cx 3 dL_law_343 rfl rfl ?_
              refine k_iconst cx 1 dL_law_344 (by decide) ?_
              refine k_iadd cx dL_law_345 ?_
              obtain ⟨a140, g141, h⟩ := bind_ok h
              obtain ⟨j142, g143, h⟩ := bind_ok h
              refine k_iald cx g141 g143 dL_law_346 ?_
              refine k_aload_n cx 0 dL_law_347 rfl rfl ?_
              refine k_iload_n cx 3 dL_law_348 rfl rfl ?_
              refine k_iconst cx 2 dL_law_349 (by decide) ?_
              refine k_iadd cx dL_law_350 ?_
              obtain ⟨j144, g145, h⟩ := bind_ok h
              refine k_iald cx g141 g145 dL_law_351 ?_
              obtain ⟨x146, hxx146, h⟩ := bind_ok h
              have Kx146 : Ol p l e s m b below meth c Γ 360 [(0, va_rf p1), (1, va_rf (some (hpN σ))), (2, va_rf (some (hpN q5))), (3, .int v3)] [.int x146, .int (hpA q138.2 a140 j142), va_rf (some (hpN q5)), .int q138.1] q138.2 := by
                obtain ⟨a148, g149, h⟩ := bind_ok h
                obtain ⟨q150, g151, h⟩ := bind_ok h
                refine k_callV cx iv_L_49 (ci := 11) rfl (by decide) (w_X11_toggle (dn_some g149).2 g151) g149 (As := [.int (hpA q138.2 a140 j142), .int x146]) rfl rfl ⟨Nat.le_of_ble_eq_true rfl, Nat.le_of_ble_eq_true rfl⟩ (by simp [cat_rf, cat_i, cat_j]) dL_law_360 ?_
                refine k_icmp_eq cx 718 dL_law_363 (by decide) (fun c152 => ?_) (fun c152 => ?_)
                · have h := ite_t h c152
                  exact Kx20 _ (Option.some.inj h)
                · have h := ite_f h c152
                  refine k_iconst cx 0 dL_law_366 (by decide) ?_
                  have h := Option.some.inj h
                  have h := sb_ret h Hx20
                  have h := sb_ret h Hx14
                  exact k_lawret cx hr hlk hb (law_v h h1) dL_law_367
              have h := hxx146
              refine k_if_eq cx 359 dL_law_352 (by decide) (fun c147 => ?_) (fun c147 => ?_)
              · have h := ite_t h c147
                refine k_iconst cx 0 dL_law_359 (by decide) ?_
                obtain rfl := Option.some.inj h
                exact Kx146
              · have h := ite_f h c147
                refine k_iconst cx 1 dL_law_355 (by decide) ?_
                refine k_goto cx 360 dL_law_356 (by decide) ?_
                obtain rfl := Option.some.inj h
                exact Kx146
            have h := hxx134
            refine k_if_eq cx 337 dL_law_330 (by decide) (fun c135 => ?_) (fun c135 => ?_)
            · have h := ite_t h c135
              refine k_iconst cx 0 dL_law_337 (by decide) ?_
              obtain rfl := Option.some.inj h
              exact Kx134
            · have h := ite_f h c135
              refine k_iconst cx 1 dL_law_333 (by decide) ?_
              refine k_goto cx 338 dL_law_334 (by decide) ?_
              obtain rfl := Option.some.inj h
              exact Kx134
          | 8, ho =>
            cases ho
            have hv : ((hpA τ a15 j18) &&& 31) = 8 := Int32.toInt_inj.mp (by rw [hs]; rfl)
            have h := ite_f h (show ¬ ((hpA τ a15 j18) &&& 31) = 0 from fun q => by rw [hv] at q; revert q; decide)
            have h := ite_f h (show ¬ ((hpA τ a15 j18) &&& 31) = 1 from fun q => by rw [hv] at q; revert q; decide)
            have h := ite_f h (show ¬ ((hpA τ a15 j18) &&& 31) = 2 from fun q => by rw [hv] at q; revert q; decide)
            have h := ite_f h (show ¬ ((hpA τ a15 j18) &&& 31) = 3 from fun q => by rw [hv] at q; revert q; decide)
            have h := ite_f h (show ¬ ((hpA τ a15 j18) &&& 31) = 4 from fun q => by rw [hv] at q; revert q; decide)
            have h := ite_f h (show ¬ ((hpA τ a15 j18) &&& 31) = 5 from fun q => by rw [hv] at q; revert q; decide)
            have h := ite_f h (show ¬ ((hpA τ a15 j18) &&& 31) = 6 from fun q => by rw [hv] at q; revert q; decide)
            have h := ite_f h (show ¬ ((hpA τ a15 j18) &&& 31) = 7 from fun q => by rw [hv] at q; revert q; decide)
            have h := ite_t h hv
            refine ⟨by decide, ?_⟩
            refine k_aload_n cx 1 dL_law_368 rfl rfl ?_
            refine k_aload_n cx 0 dL_law_369 rfl rfl ?_
            refine k_iload_n cx 3 dL_law_370 rfl rfl ?_
            refine k_iconst cx 1 dL_law_371 (by decide) ?_
            refine k_iadd cx dL_law_372 ?_
            obtain ⟨j153, g154, h⟩ := bind_ok h
            refine k_iald cx g16 g154 dL_law_373 ?_
            refine k_aload_n cx 0 dL_law_374 rfl rfl ?_
            refine k_iload_n cx 3 dL_law_375 rfl rfl ?_
            refine k_iconst cx 2 dL_law_376 (by decide) ?_
            refine k_iadd cx dL_law_377 ?_
            obtain ⟨j155, g156, h⟩ := bind_ok h
            refine k_iald cx g16 g156 dL_law_378 ?_
            obtain ⟨a157, g158, h⟩ := bind_ok h
            obtain ⟨q159, g160, h⟩ := bind_ok h
            refine k_callV cx iv_L_50 (ci := 10) rfl (by decide) (w_X10_line (dn_some g158).2 g160) g158 (As := [.int (hpA τ a15 j153), .int (hpA τ a15 j155)]) rfl rfl ⟨Nat.le_of_ble_eq_true rfl, Nat.le_of_ble_eq_true rfl⟩ (by simp [cat_rf, cat_i, cat_j]) dL_law_379 ?_
            refine k_aload_n cx 2 dL_law_382 rfl rfl ?_
            refine k_aload_n cx 0 dL_law_383 rfl rfl ?_
            refine k_iload_n cx 3 dL_law_384 rfl rfl ?_
            refine k_iconst cx 1 dL_law_385 (by decide) ?_
            refine k_iadd cx dL_law_386 ?_
            obtain ⟨j161, g162, h⟩ := bind_ok h
            refine k_iald cx g16 g162 dL_law_387 ?_
            refine k_aload_n cx 0 dL_law_388 rfl rfl ?_
            refine k_iload_n cx 3 dL_law_389 rfl rfl ?_
            refine k_iconst cx 2 dL_law_390 (by decide) ?_
            refine k_iadd cx dL_law_391 ?_
            obtain ⟨j163, g164, h⟩ := bind_ok h
            refine k_iald cx g16 g164 dL_law_392 ?_
            obtain ⟨a165, g166, h⟩ := bind_ok h
            obtain ⟨q167, g168, h⟩ := bind_ok h
            refine k_callV cx iv_L_54 (ci := 11) rfl (by decide) (w_X11_line (dn_some g166).2 g168) g166 (As := [.int (hpA τ a15 j161), .int (hpA τ a15 j163)]) rfl rfl ⟨Nat.le_of_ble_eq_true rfl, Nat.le_of_ble_eq_true rfl⟩ (by simp [cat_rf, cat_i, cat_j]) dL_law_393 ?_
            refine k_icmp_eq cx 718 dL_law_396 (by decide) (fun c169 => ?_) (fun c169 => ?_)
            · have h := ite_t h c169
              exact Kx20 _ (Option.some.inj h)
            · have h := ite_f h c169
              refine k_iconst cx 0 dL_law_399 (by decide) ?_
              have h := Option.some.inj h
              have h := sb_ret h Hx20
              have h := sb_ret h Hx14
              exact k_lawret cx hr hlk hb (law_v h h1) dL_law_400
          | 9, ho =>
            cases ho
            have hv : ((hpA τ a15 j18) &&& 31) = 9 := Int32.toInt_inj.mp (by rw [hs]; rfl)
            have h := ite_f h (show ¬ ((hpA τ a15 j18) &&& 31) = 0 from fun q => by rw [hv] at q; revert q; decide)
            have h := ite_f h (show ¬ ((hpA τ a15 j18) &&& 31) = 1 from fun q => by rw [hv] at q; revert q; decide)
            have h := ite_f h (show ¬ ((hpA τ a15 j18) &&& 31) = 2 from fun q => by rw [hv] at q; revert q; decide)
            have h := ite_f h (show ¬ ((hpA τ a15 j18) &&& 31) = 3 from fun q => by rw [hv] at q; revert q; decide)
            have h := ite_f h (show ¬ ((hpA τ a15 j18) &&& 31) = 4 from fun q => by rw [hv] at q; revert q; decide)
            have h := ite_f h (show ¬ ((hpA τ a15 j18) &&& 31) = 5 from fun q => by rw [hv] at q; revert q; decide)
            have h := ite_f h (show ¬ ((hpA τ a15 j18) &&& 31) = 6 from fun q => by rw [hv] at q; revert q; decide)
            have h := ite_f h (show ¬ ((hpA τ a15 j18) &&& 31) = 7 from fun q => by rw [hv] at q; revert q; decide)
            have h := ite_f h (show ¬ ((hpA τ a15 j18) &&& 31) = 8 from fun q => by rw [hv] at q; revert q; decide)
            have h := ite_t h hv
            refine ⟨by decide, ?_⟩
            refine k_aload_n cx 1 dL_law_401 rfl rfl ?_
            refine k_aload_n cx 0 dL_law_402 rfl rfl ?_
            refine k_iload_n cx 3 dL_law_403 rfl rfl ?_
            refine k_iconst cx 1 dL_law_404 (by decide) ?_
            refine k_iadd cx dL_law_405 ?_
            obtain ⟨j170, g171, h⟩ := bind_ok h
            refine k_iald cx g16 g171 dL_law_406 ?_
            refine k_aload_n cx 0 dL_law_407 rfl rfl ?_
            refine k_iload_n cx 3 dL_law_408 rfl rfl ?_
            refine k_iconst cx 2 dL_law_409 (by decide) ?_
            refine k_iadd cx dL_law_410 ?_
            obtain ⟨j172, g173, h⟩ := bind_ok h
            refine k_iald cx g16 g173 dL_law_411 ?_
            obtain ⟨a174, g175, h⟩ := bind_ok h
            obtain ⟨q176, g177, h⟩ := bind_ok h
            refine k_callV cx iv_L_55 (ci := 10) rfl (by decide) (w_X10_letter (dn_some g175).2 g177) g175 (As := [.int (hpA τ a15 j170), .int (hpA τ a15 j172)]) rfl rfl ⟨Nat.le_of_ble_eq_true rfl, Nat.le_of_ble_eq_true rfl⟩ (by simp [cat_rf, cat_i, cat_j]) dL_law_412 ?_
            refine k_aload_n cx 2 dL_law_415 rfl rfl ?_
            refine k_aload_n cx 0 dL_law_416 rfl rfl ?_
            refine k_iload_n cx 3 dL_law_417 rfl rfl ?_
            refine k_iconst cx 1 dL_law_418 (by decide) ?_
            refine k_iadd cx dL_law_419 ?_
            obtain ⟨j178, g179, h⟩ := bind_ok h
            refine k_iald cx g16 g179 dL_law_420 ?_
            refine k_aload_n cx 0 dL_law_421 rfl rfl ?_
            refine k_iload_n cx 3 dL_law_422 rfl rfl ?_
            refine k_iconst cx 2 dL_law_423 (by decide) ?_
            refine k_iadd cx dL_law_424 ?_
            obtain ⟨j180, g181, h⟩ := bind_ok h
            refine k_iald cx g16 g181 dL_law_425 ?_
            obtain ⟨a182, g183, h⟩ := bind_ok h
            obtain ⟨q184, g185, h⟩ := bind_ok h
            refine k_callV cx iv_L_58 (ci := 11) rfl (by decide) (w_X11_letter (dn_some g183).2 g185) g183 (As := [.int (hpA τ a15 j178), .int (hpA τ a15 j180)]) rfl rfl ⟨Nat.le_of_ble_eq_true rfl, Nat.le_of_ble_eq_true rfl⟩ (by simp [cat_rf, cat_i, cat_j]) dL_law_426 ?_
            refine k_icmp_eq cx 718 dL_law_429 (by decide) (fun c186 => ?_) (fun c186 => ?_)
            · have h := ite_t h c186
              exact Kx20 _ (Option.some.inj h)
            · have h := ite_f h c186
              refine k_iconst cx 0 dL_law_432 (by decide) ?_
              have h := Option.some.inj h
              have h := sb_ret h Hx20
              have h := sb_ret h Hx14
              exact k_lawret cx hr hlk hb (law_v h h1) dL_law_433
          | 10, ho =>
            cases ho
            have hv : ((hpA τ a15 j18) &&& 31) = 10 := Int32.toInt_inj.mp (by rw [hs]; rfl)
            have h := ite_f h (show ¬ ((hpA τ a15 j18) &&& 31) = 0 from fun q => by rw [hv] at q; revert q; decide)
            have h := ite_f h (show ¬ ((hpA τ a15 j18) &&& 31) = 1 from fun q => by rw [hv] at q; revert q; decide)
            have h := ite_f h (show ¬ ((hpA τ a15 j18) &&& 31) = 2 from fun q => by rw [hv] at q; revert q; decide)
            have h := ite_f h (show ¬ ((hpA τ a15 j18) &&& 31) = 3 from fun q => by rw [hv] at q; revert q; decide)
            have h := ite_f h (show ¬ ((hpA τ a15 j18) &&& 31) = 4 from fun q => by rw [hv] at q; revert q; decide)
            have h := ite_f h (show ¬ ((hpA τ a15 j18) &&& 31) = 5 from fun q => by rw [hv] at q; revert q; decide)
            have h := ite_f h (show ¬ ((hpA τ a15 j18) &&& 31) = 6 from fun q => by rw [hv] at q; revert q; decide)
            have h := ite_f h (show ¬ ((hpA τ a15 j18) &&& 31) = 7 from fun q => by rw [hv] at q; revert q; decide)
            have h := ite_f h (show ¬ ((hpA τ a15 j18) &&& 31) = 8 from fun q => by rw [hv] at q; revert q; decide)
            have h := ite_f h (show ¬ ((hpA τ a15 j18) &&& 31) = 9 from fun q => by rw [hv] at q; revert q; decide)
            have h := ite_t h hv
            refine ⟨by decide, ?_⟩
            refine k_aload_n cx 1 dL_law_434 rfl rfl ?_
            refine k_aload_n cx 0 dL_law_435 rfl rfl ?_
            refine k_iload_n cx 3 dL_law_436 rfl rfl ?_
            refine k_iconst cx 1 dL_law_437 (by decide) ?_
            refine k_iadd cx dL_law_438 ?_
            obtain ⟨j187, g188, h⟩ := bind_ok h
            refine k_iald cx g16 g188 dL_law_439 ?_
            refine k_aload_n cx 0 dL_law_440 rfl rfl ?_
            refine k_iload_n cx 3 dL_law_441 rfl rfl ?_
            refine k_iconst cx 2 dL_law_442 (by decide) ?_
            refine k_iadd cx dL_law_443 ?_
            obtain ⟨j189, g190, h⟩ := bind_ok h
            refine k_iald cx g16 g190 dL_law_444 ?_
            obtain ⟨a191, g192, h⟩ := bind_ok h
            obtain ⟨q193, g194, h⟩ := bind_ok h
            refine k_callV cx iv_L_59 (ci := 10) rfl (by decide) (w_X10_set (dn_some g192).2 g194) g192 (As := [.int (hpA τ a15 j187), .int (hpA τ a15 j189)]) rfl rfl ⟨Nat.le_of_ble_eq_true rfl, Nat.le_of_ble_eq_true rfl⟩ (by simp [cat_rf, cat_i, cat_j]) dL_law_445 ?_
            refine k_aload_n cx 2 dL_law_448 rfl rfl ?_
            refine k_aload_n cx 0 dL_law_449 rfl rfl ?_
            refine k_iload_n cx 3 dL_law_450 rfl rfl ?_
            refine k_iconst cx 1 dL_law_451 (by decide) ?_
            refine k_iadd cx dL_law_452 ?_
            obtain ⟨a195, g196, h⟩ := bind_ok h
            obtain ⟨j197, g198, h⟩ := bind_ok h
            refine k_iald cx g196 g198 dL_law_453 ?_
            refine k_aload_n cx 0 dL_law_454 rfl rfl ?_
            refine k_iload_n cx 3 dL_law_455 rfl rfl ?_
            refine k_iconst cx 2 dL_law_456 (by decide) ?_
            refine k_iadd cx dL_law_457 ?_
            obtain ⟨j199, g200, h⟩ := bind_ok h
            refine k_iald cx g196 g200 dL_law_458 ?_
            obtain ⟨a201, g202, h⟩ := bind_ok h
            obtain ⟨q203, g204, h⟩ := bind_ok h
            refine k_callV cx iv_L_62 (ci := 11) rfl (by decide) (w_X11_set (dn_some g202).2 g204) g202 (As := [.int (hpA q193.2 a195 j197), .int (hpA q193.2 a195 j199)]) rfl rfl ⟨Nat.le_of_ble_eq_true rfl, Nat.le_of_ble_eq_true rfl⟩ (by simp [cat_rf, cat_i, cat_j]) dL_law_459 ?_
            refine k_icmp_eq cx 718 dL_law_462 (by decide) (fun c205 => ?_) (fun c205 => ?_)
            · have h := ite_t h c205
              exact Kx20 _ (Option.some.inj h)
            · have h := ite_f h c205
              refine k_iconst cx 0 dL_law_465 (by decide) ?_
              have h := Option.some.inj h
              have h := sb_ret h Hx20
              have h := sb_ret h Hx14
              exact k_lawret cx hr hlk hb (law_v h h1) dL_law_466
          | 11, ho =>
            cases ho
            have hv : ((hpA τ a15 j18) &&& 31) = 11 := Int32.toInt_inj.mp (by rw [hs]; rfl)
            have h := ite_f h (show ¬ ((hpA τ a15 j18) &&& 31) = 0 from fun q => by rw [hv] at q; revert q; decide)
            have h := ite_f h (show ¬ ((hpA τ a15 j18) &&& 31) = 1 from fun q => by rw [hv] at q; revert q; decide)
            have h := ite_f h (show ¬ ((hpA τ a15 j18) &&& 31) = 2 from fun q => by rw [hv] at q; revert q; decide)
            have h := ite_f h (show ¬ ((hpA τ a15 j18) &&& 31) = 3 from fun q => by rw [hv] at q; revert q; decide)
            have h := ite_f h (show ¬ ((hpA τ a15 j18) &&& 31) = 4 from fun q => by rw [hv] at q; revert q; decide)
            have h := ite_f h (show ¬ ((hpA τ a15 j18) &&& 31) = 5 from fun q => by rw [hv] at q; revert q; decide)
            have h := ite_f h (show ¬ ((hpA τ a15 j18) &&& 31) = 6 from fun q => by rw [hv] at q; revert q; decide)
            have h := ite_f h (show ¬ ((hpA τ a15 j18) &&& 31) = 7 from fun q => by rw [hv] at q; revert q; decide)
            have h := ite_f h (show ¬ ((hpA τ a15 j18) &&& 31) = 8 from fun q => by rw [hv] at q; revert q; decide)
            have h := ite_f h (show ¬ ((hpA τ a15 j18) &&& 31) = 9 from fun q => by rw [hv] at q; revert q; decide)
            have h := ite_f h (show ¬ ((hpA τ a15 j18) &&& 31) = 10 from fun q => by rw [hv] at q; revert q; decide)
            have h := ite_t h hv
            refine ⟨by decide, ?_⟩
            refine k_aload_n cx 1 dL_law_467 rfl rfl ?_
            obtain ⟨a206, g207, h⟩ := bind_ok h
            obtain ⟨q208, g209, h⟩ := bind_ok h
            refine k_callV cx iv_L_63 (ci := 10) rfl (by decide) (w_X10_undo (dn_some g207).2 g209) g207 (As := []) rfl rfl ⟨Nat.le_of_ble_eq_true rfl, Nat.le_of_ble_eq_true rfl⟩ (by simp [cat_rf, cat_i, cat_j]) dL_law_468 ?_
            refine k_aload_n cx 2 dL_law_471 rfl rfl ?_
            obtain ⟨a210, g211, h⟩ := bind_ok h
            obtain ⟨q212, g213, h⟩ := bind_ok h
            refine k_callV cx iv_L_66 (ci := 11) rfl (by decide) (w_X11_undo (dn_some g211).2 g213) g211 (As := []) rfl rfl ⟨Nat.le_of_ble_eq_true rfl, Nat.le_of_ble_eq_true rfl⟩ (by simp [cat_rf, cat_i, cat_j]) dL_law_472 ?_
            refine k_icmp_eq cx 718 dL_law_475 (by decide) (fun c214 => ?_) (fun c214 => ?_)
            · have h := ite_t h c214
              exact Kx20 _ (Option.some.inj h)
            · have h := ite_f h c214
              refine k_iconst cx 0 dL_law_478 (by decide) ?_
              have h := Option.some.inj h
              have h := sb_ret h Hx20
              have h := sb_ret h Hx14
              exact k_lawret cx hr hlk hb (law_v h h1) dL_law_479
          | 12, ho =>
            cases ho
            have hv : ((hpA τ a15 j18) &&& 31) = 12 := Int32.toInt_inj.mp (by rw [hs]; rfl)
            have h := ite_f h (show ¬ ((hpA τ a15 j18) &&& 31) = 0 from fun q => by rw [hv] at q; revert q; decide)
            have h := ite_f h (show ¬ ((hpA τ a15 j18) &&& 31) = 1 from fun q => by rw [hv] at q; revert q; decide)
            have h := ite_f h (show ¬ ((hpA τ a15 j18) &&& 31) = 2 from fun q => by rw [hv] at q; revert q; decide)
            have h := ite_f h (show ¬ ((hpA τ a15 j18) &&& 31) = 3 from fun q => by rw [hv] at q; revert q; decide)
            have h := ite_f h (show ¬ ((hpA τ a15 j18) &&& 31) = 4 from fun q => by rw [hv] at q; revert q; decide)
            have h := ite_f h (show ¬ ((hpA τ a15 j18) &&& 31) = 5 from fun q => by rw [hv] at q; revert q; decide)
            have h := ite_f h (show ¬ ((hpA τ a15 j18) &&& 31) = 6 from fun q => by rw [hv] at q; revert q; decide)
            have h := ite_f h (show ¬ ((hpA τ a15 j18) &&& 31) = 7 from fun q => by rw [hv] at q; revert q; decide)
            have h := ite_f h (show ¬ ((hpA τ a15 j18) &&& 31) = 8 from fun q => by rw [hv] at q; revert q; decide)
            have h := ite_f h (show ¬ ((hpA τ a15 j18) &&& 31) = 9 from fun q => by rw [hv] at q; revert q; decide)
            have h := ite_f h (show ¬ ((hpA τ a15 j18) &&& 31) = 10 from fun q => by rw [hv] at q; revert q; decide)
            have h := ite_f h (show ¬ ((hpA τ a15 j18) &&& 31) = 11 from fun q => by rw [hv] at q; revert q; decide)
            have h := ite_t h hv
            refine ⟨by decide, ?_⟩
            refine k_aload_n cx 1 dL_law_480 rfl rfl ?_
            refine k_aload_n cx 0 dL_law_481 rfl rfl ?_
            refine k_iload_n cx 3 dL_law_482 rfl rfl ?_
            refine k_iconst cx 1 dL_law_483 (by decide) ?_
            refine k_iadd cx dL_law_484 ?_
            obtain ⟨j215, g216, h⟩ := bind_ok h
            refine k_iald cx g16 g216 dL_law_485 ?_
            refine k_aload_n cx 0 dL_law_486 rfl rfl ?_
            refine k_iload_n cx 3 dL_law_487 rfl rfl ?_
            refine k_iconst cx 2 dL_law_488 (by decide) ?_
            refine k_iadd cx dL_law_489 ?_
            obtain ⟨j217, g218, h⟩ := bind_ok h
            refine k_iald cx g16 g218 dL_law_490 ?_
            obtain ⟨a219, g220, h⟩ := bind_ok h
            obtain ⟨q221, g222, h⟩ := bind_ok h
            refine k_callV cx iv_L_67 (ci := 10) rfl (by decide) (w_X10_row (dn_some g220).2 g222) g220 (As := [.int (hpA τ a15 j215), .int (hpA τ a15 j217)]) rfl rfl ⟨Nat.le_of_ble_eq_true rfl, Nat.le_of_ble_eq_true rfl⟩ (by simp [cat_rf, cat_i, cat_j]) dL_law_491 ?_
            refine k_aload_n cx 2 dL_law_494 rfl rfl ?_
            refine k_aload_n cx 0 dL_law_495 rfl rfl ?_
            refine k_iload_n cx 3 dL_law_496 rfl rfl ?_
            refine k_iconst cx 1 dL_law_497 (by decide) ?_
            refine k_iadd cx dL_law_498 ?_
            obtain ⟨j223, g224, h⟩ := bind_ok h
            refine k_iald cx g16 g224 dL_law_499 ?_
            refine k_aload_n cx 0 dL_law_500 rfl rfl ?_
            refine k_iload_n cx 3 dL_law_501 rfl rfl ?_
            refine k_iconst cx 2 dL_law_502 (by decide) ?_
            refine k_iadd cx dL_law_503 ?_
            obtain ⟨j225, g226, h⟩ := bind_ok h
            refine k_iald cx g16 g226 dL_law_504 ?_
            obtain ⟨a227, g228, h⟩ := bind_ok h
            obtain ⟨q229, g230, h⟩ := bind_ok h
            refine k_callV cx iv_L_70 (ci := 11) rfl (by decide) (w_X11_row (dn_some g228).2 g230) g228 (As := [.int (hpA τ a15 j223), .int (hpA τ a15 j225)]) rfl rfl ⟨Nat.le_of_ble_eq_true rfl, Nat.le_of_ble_eq_true rfl⟩ (by simp [cat_rf, cat_i, cat_j]) dL_law_505 ?_
            refine k_icmp_eq cx 718 dL_law_508 (by decide) (fun c231 => ?_) (fun c231 => ?_)
            · have h := ite_t h c231
              exact Kx20 _ (Option.some.inj h)
            · have h := ite_f h c231
              refine k_iconst cx 0 dL_law_511 (by decide) ?_
              have h := Option.some.inj h
              have h := sb_ret h Hx20
              have h := sb_ret h Hx14
              exact k_lawret cx hr hlk hb (law_v h h1) dL_law_512
          | 13, ho =>
            cases ho
            have hv : ((hpA τ a15 j18) &&& 31) = 13 := Int32.toInt_inj.mp (by rw [hs]; rfl)
            have h := ite_f h (show ¬ ((hpA τ a15 j18) &&& 31) = 0 from fun q => by rw [hv] at q; revert q; decide)
            have h := ite_f h (show ¬ ((hpA τ a15 j18) &&& 31) = 1 from fun q => by rw [hv] at q; revert q; decide)
            have h := ite_f h (show ¬ ((hpA τ a15 j18) &&& 31) = 2 from fun q => by rw [hv] at q; revert q; decide)
            have h := ite_f h (show ¬ ((hpA τ a15 j18) &&& 31) = 3 from fun q => by rw [hv] at q; revert q; decide)
            have h := ite_f h (show ¬ ((hpA τ a15 j18) &&& 31) = 4 from fun q => by rw [hv] at q; revert q; decide)
            have h := ite_f h (show ¬ ((hpA τ a15 j18) &&& 31) = 5 from fun q => by rw [hv] at q; revert q; decide)
            have h := ite_f h (show ¬ ((hpA τ a15 j18) &&& 31) = 6 from fun q => by rw [hv] at q; revert q; decide)
            have h := ite_f h (show ¬ ((hpA τ a15 j18) &&& 31) = 7 from fun q => by rw [hv] at q; revert q; decide)
            have h := ite_f h (show ¬ ((hpA τ a15 j18) &&& 31) = 8 from fun q => by rw [hv] at q; revert q; decide)
            have h := ite_f h (show ¬ ((hpA τ a15 j18) &&& 31) = 9 from fun q => by rw [hv] at q; revert q; decide)
            have h := ite_f h (show ¬ ((hpA τ a15 j18) &&& 31) = 10 from fun q => by rw [hv] at q; revert q; decide)
            have h := ite_f h (show ¬ ((hpA τ a15 j18) &&& 31) = 11 from fun q => by rw [hv] at q; revert q; decide)
            have h := ite_f h (show ¬ ((hpA τ a15 j18) &&& 31) = 12 from fun q => by rw [hv] at q; revert q; decide)
            have h := ite_t h hv
            refine ⟨by decide, ?_⟩
            refine k_aload_n cx 1 dL_law_513 rfl rfl ?_
            refine k_aload_n cx 0 dL_law_514 rfl rfl ?_
            refine k_iload_n cx 3 dL_law_515 rfl rfl ?_
            refine k_iconst cx 1 dL_law_516 (by decide) ?_
            refine k_iadd cx dL_law_517 ?_
            obtain ⟨j232, g233, h⟩ := bind_ok h
            refine k_iald cx g16 g233 dL_law_518 ?_
            refine k_aload_n cx 0 dL_law_519 rfl rfl ?_
            refine k_iload_n cx 3 dL_law_520 rfl rfl ?_
            refine k_iconst cx 2 dL_law_521 (by decide) ?_
            refine k_iadd cx dL_law_522 ?_
            obtain ⟨j234, g235, h⟩ := bind_ok h
            refine k_iald cx g16 g235 dL_law_523 ?_
            refine k_aload_n cx 0 dL_law_524 rfl rfl ?_
            refine k_iload_n cx 3 dL_law_525 rfl rfl ?_
            refine k_iconst cx 3 dL_law_526 (by decide) ?_
            refine k_iadd cx dL_law_527 ?_
            obtain ⟨j236, g237, h⟩ := bind_ok h
            refine k_iald cx g16 g237 dL_law_528 ?_
            obtain ⟨a238, g239, h⟩ := bind_ok h
            obtain ⟨q240, g241, h⟩ := bind_ok h
            refine k_callV cx iv_L_71 (ci := 10) rfl (by decide) (w_X10_at (dn_some g239).2 g241) g239 (As := [.int (hpA τ a15 j232), .int (hpA τ a15 j234), .int (hpA τ a15 j236)]) rfl rfl ⟨Nat.le_of_ble_eq_true rfl, Nat.le_of_ble_eq_true rfl⟩ (by simp [cat_rf, cat_i, cat_j]) dL_law_529 ?_
            refine k_aload_n cx 2 dL_law_532 rfl rfl ?_
            refine k_aload_n cx 0 dL_law_533 rfl rfl ?_
            refine k_iload_n cx 3 dL_law_534 rfl rfl ?_
            refine k_iconst cx 1 dL_law_535 (by decide) ?_
            refine k_iadd cx dL_law_536 ?_
            obtain ⟨j242, g243, h⟩ := bind_ok h
            refine k_iald cx g16 g243 dL_law_537 ?_
            refine k_aload_n cx 0 dL_law_538 rfl rfl ?_
            refine k_iload_n cx 3 dL_law_539 rfl rfl ?_
            refine k_iconst cx 2 dL_law_540 (by decide) ?_
            refine k_iadd cx dL_law_541 ?_
            obtain ⟨j244, g245, h⟩ := bind_ok h
            refine k_iald cx g16 g245 dL_law_542 ?_
            refine k_aload_n cx 0 dL_law_543 rfl rfl ?_
            refine k_iload_n cx 3 dL_law_544 rfl rfl ?_
            refine k_iconst cx 3 dL_law_545 (by decide) ?_
            refine k_iadd cx dL_law_546 ?_
            obtain ⟨j246, g247, h⟩ := bind_ok h
            refine k_iald cx g16 g247 dL_law_547 ?_
            obtain ⟨a248, g249, h⟩ := bind_ok h
            obtain ⟨q250, g251, h⟩ := bind_ok h
            refine k_callV cx iv_L_74 (ci := 11) rfl (by decide) (w_X11_at (dn_some g249).2 g251) g249 (As := [.int (hpA τ a15 j242), .int (hpA τ a15 j244), .int (hpA τ a15 j246)]) rfl rfl ⟨Nat.le_of_ble_eq_true rfl, Nat.le_of_ble_eq_true rfl⟩ (by simp [cat_rf, cat_i, cat_j]) dL_law_548 ?_
            refine k_icmp_eq cx 718 dL_law_551 (by decide) (fun c252 => ?_) (fun c252 => ?_)
            · have h := ite_t h c252
              exact Kx20 _ (Option.some.inj h)
            · have h := ite_f h c252
              refine k_iconst cx 0 dL_law_554 (by decide) ?_
              have h := Option.some.inj h
              have h := sb_ret h Hx20
              have h := sb_ret h Hx14
              exact k_lawret cx hr hlk hb (law_v h h1) dL_law_555
          | 14, ho =>
            cases ho
            have hv : ((hpA τ a15 j18) &&& 31) = 14 := Int32.toInt_inj.mp (by rw [hs]; rfl)
            have h := ite_f h (show ¬ ((hpA τ a15 j18) &&& 31) = 0 from fun q => by rw [hv] at q; revert q; decide)
            have h := ite_f h (show ¬ ((hpA τ a15 j18) &&& 31) = 1 from fun q => by rw [hv] at q; revert q; decide)
            have h := ite_f h (show ¬ ((hpA τ a15 j18) &&& 31) = 2 from fun q => by rw [hv] at q; revert q; decide)
            have h := ite_f h (show ¬ ((hpA τ a15 j18) &&& 31) = 3 from fun q => by rw [hv] at q; revert q; decide)
            have h := ite_f h (show ¬ ((hpA τ a15 j18) &&& 31) = 4 from fun q => by rw [hv] at q; revert q; decide)
            have h := ite_f h (show ¬ ((hpA τ a15 j18) &&& 31) = 5 from fun q => by rw [hv] at q; revert q; decide)
            have h := ite_f h (show ¬ ((hpA τ a15 j18) &&& 31) = 6 from fun q => by rw [hv] at q; revert q; decide)
            have h := ite_f h (show ¬ ((hpA τ a15 j18) &&& 31) = 7 from fun q => by rw [hv] at q; revert q; decide)
            have h := ite_f h (show ¬ ((hpA τ a15 j18) &&& 31) = 8 from fun q => by rw [hv] at q; revert q; decide)
            have h := ite_f h (show ¬ ((hpA τ a15 j18) &&& 31) = 9 from fun q => by rw [hv] at q; revert q; decide)
            have h := ite_f h (show ¬ ((hpA τ a15 j18) &&& 31) = 10 from fun q => by rw [hv] at q; revert q; decide)
            have h := ite_f h (show ¬ ((hpA τ a15 j18) &&& 31) = 11 from fun q => by rw [hv] at q; revert q; decide)
            have h := ite_f h (show ¬ ((hpA τ a15 j18) &&& 31) = 12 from fun q => by rw [hv] at q; revert q; decide)
            have h := ite_f h (show ¬ ((hpA τ a15 j18) &&& 31) = 13 from fun q => by rw [hv] at q; revert q; decide)
            have h := ite_t h hv
            refine ⟨by decide, ?_⟩
            refine k_aload_n cx 1 dL_law_556 rfl rfl ?_
            refine k_aload_n cx 0 dL_law_557 rfl rfl ?_
            refine k_iload_n cx 3 dL_law_558 rfl rfl ?_
            refine k_iconst cx 1 dL_law_559 (by decide) ?_
            refine k_iadd cx dL_law_560 ?_
            obtain ⟨j253, g254, h⟩ := bind_ok h
            refine k_iald cx g16 g254 dL_law_561 ?_
            refine k_aload_n cx 0 dL_law_562 rfl rfl ?_
            refine k_iload_n cx 3 dL_law_563 rfl rfl ?_
            refine k_iconst cx 2 dL_law_564 (by decide) ?_
            refine k_iadd cx dL_law_565 ?_
            obtain ⟨j255, g256, h⟩ := bind_ok h
            refine k_iald cx g16 g256 dL_law_566 ?_
            obtain ⟨a257, g258, h⟩ := bind_ok h
            obtain ⟨q259, g260, h⟩ := bind_ok h
            refine k_callV cx iv_L_75 (ci := 10) rfl (by decide) (w_X10_page (dn_some g258).2 g260) g258 (As := [.int (hpA τ a15 j253), .int (hpA τ a15 j255)]) rfl rfl ⟨Nat.le_of_ble_eq_true rfl, Nat.le_of_ble_eq_true rfl⟩ (by simp [cat_rf, cat_i, cat_j]) dL_law_567 ?_
            refine k_aload_n cx 2 dL_law_570 rfl rfl ?_
            refine k_aload_n cx 0 dL_law_571 rfl rfl ?_
            refine k_iload_n cx 3 dL_law_572 rfl rfl ?_
            refine k_iconst cx 1 dL_law_573 (by decide) ?_
            refine k_iadd cx dL_law_574 ?_
            obtain ⟨j261, g262, h⟩ := bind_ok h
            refine k_iald cx g16 g262 dL_law_575 ?_
            refine k_aload_n cx 0 dL_law_576 rfl rfl ?_
            refine k_iload_n cx 3 dL_law_577 rfl rfl ?_
            refine k_iconst cx 2 dL_law_578 (by decide) ?_
            refine k_iadd cx dL_law_579 ?_
            obtain ⟨j263, g264, h⟩ := bind_ok h
            refine k_iald cx g16 g264 dL_law_580 ?_
            obtain ⟨a265, g266, h⟩ := bind_ok h
            obtain ⟨q267, g268, h⟩ := bind_ok h
            refine k_callV cx iv_L_78 (ci := 11) rfl (by decide) (w_X11_page (dn_some g266).2 g268) g266 (As := [.int (hpA τ a15 j261), .int (hpA τ a15 j263)]) rfl rfl ⟨Nat.le_of_ble_eq_true rfl, Nat.le_of_ble_eq_true rfl⟩ (by simp [cat_rf, cat_i, cat_j]) dL_law_581 ?_
            refine k_icmp_eq cx 718 dL_law_584 (by decide) (fun c269 => ?_) (fun c269 => ?_)
            · have h := ite_t h c269
              exact Kx20 _ (Option.some.inj h)
            · have h := ite_f h c269
              refine k_iconst cx 0 dL_law_587 (by decide) ?_
              have h := Option.some.inj h
              have h := sb_ret h Hx20
              have h := sb_ret h Hx14
              exact k_lawret cx hr hlk hb (law_v h h1) dL_law_588
          | 15, ho =>
            cases ho
            have hv : ((hpA τ a15 j18) &&& 31) = 15 := Int32.toInt_inj.mp (by rw [hs]; rfl)
            have h := ite_f h (show ¬ ((hpA τ a15 j18) &&& 31) = 0 from fun q => by rw [hv] at q; revert q; decide)
            have h := ite_f h (show ¬ ((hpA τ a15 j18) &&& 31) = 1 from fun q => by rw [hv] at q; revert q; decide)
            have h := ite_f h (show ¬ ((hpA τ a15 j18) &&& 31) = 2 from fun q => by rw [hv] at q; revert q; decide)
            have h := ite_f h (show ¬ ((hpA τ a15 j18) &&& 31) = 3 from fun q => by rw [hv] at q; revert q; decide)
            have h := ite_f h (show ¬ ((hpA τ a15 j18) &&& 31) = 4 from fun q => by rw [hv] at q; revert q; decide)
            have h := ite_f h (show ¬ ((hpA τ a15 j18) &&& 31) = 5 from fun q => by rw [hv] at q; revert q; decide)
            have h := ite_f h (show ¬ ((hpA τ a15 j18) &&& 31) = 6 from fun q => by rw [hv] at q; revert q; decide)
            have h := ite_f h (show ¬ ((hpA τ a15 j18) &&& 31) = 7 from fun q => by rw [hv] at q; revert q; decide)
            have h := ite_f h (show ¬ ((hpA τ a15 j18) &&& 31) = 8 from fun q => by rw [hv] at q; revert q; decide)
            have h := ite_f h (show ¬ ((hpA τ a15 j18) &&& 31) = 9 from fun q => by rw [hv] at q; revert q; decide)
            have h := ite_f h (show ¬ ((hpA τ a15 j18) &&& 31) = 10 from fun q => by rw [hv] at q; revert q; decide)
            have h := ite_f h (show ¬ ((hpA τ a15 j18) &&& 31) = 11 from fun q => by rw [hv] at q; revert q; decide)
            have h := ite_f h (show ¬ ((hpA τ a15 j18) &&& 31) = 12 from fun q => by rw [hv] at q; revert q; decide)
            have h := ite_f h (show ¬ ((hpA τ a15 j18) &&& 31) = 13 from fun q => by rw [hv] at q; revert q; decide)
            have h := ite_f h (show ¬ ((hpA τ a15 j18) &&& 31) = 14 from fun q => by rw [hv] at q; revert q; decide)
            have h := ite_t h hv
            refine ⟨by decide, ?_⟩
            refine k_aload_n cx 1 dL_law_589 rfl rfl ?_
            refine k_aload_n cx 0 dL_law_590 rfl rfl ?_
            refine k_iload_n cx 3 dL_law_591 rfl rfl ?_
            refine k_iconst cx 1 dL_law_592 (by decide) ?_
            refine k_iadd cx dL_law_593 ?_
            obtain ⟨j270, g271, h⟩ := bind_ok h
            refine k_iald cx g16 g271 dL_law_594 ?_
            obtain ⟨a272, g273, h⟩ := bind_ok h
            obtain ⟨q274, g275, h⟩ := bind_ok h
            refine k_callV cx iv_L_79 (ci := 10) rfl (by decide) (w_X10_distance (dn_some g273).2 g275) g273 (As := [.int (hpA τ a15 j270)]) rfl rfl ⟨Nat.le_of_ble_eq_true rfl, Nat.le_of_ble_eq_true rfl⟩ (by simp [cat_rf, cat_i, cat_j]) dL_law_595 ?_
            refine k_aload_n cx 2 dL_law_598 rfl rfl ?_
            refine k_aload_n cx 0 dL_law_599 rfl rfl ?_
            refine k_iload_n cx 3 dL_law_600 rfl rfl ?_
            refine k_iconst cx 1 dL_law_601 (by decide) ?_
            refine k_iadd cx dL_law_602 ?_
            obtain ⟨j276, g277, h⟩ := bind_ok h
            refine k_iald cx g16 g277 dL_law_603 ?_
            obtain ⟨a278, g279, h⟩ := bind_ok h
            obtain ⟨q280, g281, h⟩ := bind_ok h
            refine k_callV cx iv_L_82 (ci := 11) rfl (by decide) (w_X11_distance (dn_some g279).2 g281) g279 (As := [.int (hpA τ a15 j276)]) rfl rfl ⟨Nat.le_of_ble_eq_true rfl, Nat.le_of_ble_eq_true rfl⟩ (by simp [cat_rf, cat_i, cat_j]) dL_law_604 ?_
            refine k_icmp_eq cx 718 dL_law_607 (by decide) (fun c282 => ?_) (fun c282 => ?_)
            · have h := ite_t h c282
              exact Kx20 _ (Option.some.inj h)
            · have h := ite_f h c282
              refine k_iconst cx 0 dL_law_610 (by decide) ?_
              have h := Option.some.inj h
              have h := sb_ret h Hx20
              have h := sb_ret h Hx14
              exact k_lawret cx hr hlk hb (law_v h h1) dL_law_611
          | 16, ho =>
            cases ho
            have hv : ((hpA τ a15 j18) &&& 31) = 16 := Int32.toInt_inj.mp (by rw [hs]; rfl)
            have h := ite_f h (show ¬ ((hpA τ a15 j18) &&& 31) = 0 from fun q => by rw [hv] at q; revert q; decide)
            have h := ite_f h (show ¬ ((hpA τ a15 j18) &&& 31) = 1 from fun q => by rw [hv] at q; revert q; decide)
            have h := ite_f h (show ¬ ((hpA τ a15 j18) &&& 31) = 2 from fun q => by rw [hv] at q; revert q; decide)
            have h := ite_f h (show ¬ ((hpA τ a15 j18) &&& 31) = 3 from fun q => by rw [hv] at q; revert q; decide)
            have h := ite_f h (show ¬ ((hpA τ a15 j18) &&& 31) = 4 from fun q => by rw [hv] at q; revert q; decide)
            have h := ite_f h (show ¬ ((hpA τ a15 j18) &&& 31) = 5 from fun q => by rw [hv] at q; revert q; decide)
            have h := ite_f h (show ¬ ((hpA τ a15 j18) &&& 31) = 6 from fun q => by rw [hv] at q; revert q; decide)
            have h := ite_f h (show ¬ ((hpA τ a15 j18) &&& 31) = 7 from fun q => by rw [hv] at q; revert q; decide)
            have h := ite_f h (show ¬ ((hpA τ a15 j18) &&& 31) = 8 from fun q => by rw [hv] at q; revert q; decide)
            have h := ite_f h (show ¬ ((hpA τ a15 j18) &&& 31) = 9 from fun q => by rw [hv] at q; revert q; decide)
            have h := ite_f h (show ¬ ((hpA τ a15 j18) &&& 31) = 10 from fun q => by rw [hv] at q; revert q; decide)
            have h := ite_f h (show ¬ ((hpA τ a15 j18) &&& 31) = 11 from fun q => by rw [hv] at q; revert q; decide)
            have h := ite_f h (show ¬ ((hpA τ a15 j18) &&& 31) = 12 from fun q => by rw [hv] at q; revert q; decide)
            have h := ite_f h (show ¬ ((hpA τ a15 j18) &&& 31) = 13 from fun q => by rw [hv] at q; revert q; decide)
            have h := ite_f h (show ¬ ((hpA τ a15 j18) &&& 31) = 14 from fun q => by rw [hv] at q; revert q; decide)
            have h := ite_f h (show ¬ ((hpA τ a15 j18) &&& 31) = 15 from fun q => by rw [hv] at q; revert q; decide)
            have h := ite_t h hv
            refine ⟨by decide, ?_⟩
            refine k_aload_n cx 1 dL_law_612 rfl rfl ?_
            refine k_aload_n cx 0 dL_law_613 rfl rfl ?_
            refine k_iload_n cx 3 dL_law_614 rfl rfl ?_
            refine k_iconst cx 1 dL_law_615 (by decide) ?_
            refine k_iadd cx dL_law_616 ?_
            obtain ⟨j283, g284, h⟩ := bind_ok h
            refine k_iald cx g16 g284 dL_law_617 ?_
            obtain ⟨a285, g286, h⟩ := bind_ok h
            obtain ⟨q287, g288, h⟩ := bind_ok h
            refine k_callV cx iv_L_83 (ci := 10) rfl (by decide) (w_X10_shape (dn_some g286).2 g288) g286 (As := [.int (hpA τ a15 j283)]) rfl rfl ⟨Nat.le_of_ble_eq_true rfl, Nat.le_of_ble_eq_true rfl⟩ (by simp [cat_rf, cat_i, cat_j]) dL_law_618 ?_
            refine k_aload_n cx 2 dL_law_621 rfl rfl ?_
            refine k_aload_n cx 0 dL_law_622 rfl rfl ?_
            refine k_iload_n cx 3 dL_law_623 rfl rfl ?_
            refine k_iconst cx 1 dL_law_624 (by decide) ?_
            refine k_iadd cx dL_law_625 ?_
            obtain ⟨j289, g290, h⟩ := bind_ok h
            refine k_iald cx g16 g290 dL_law_626 ?_
            obtain ⟨a291, g292, h⟩ := bind_ok h
            obtain ⟨q293, g294, h⟩ := bind_ok h
            refine k_callV cx iv_L_86 (ci := 11) rfl (by decide) (w_X11_shape (dn_some g292).2 g294) g292 (As := [.int (hpA τ a15 j289)]) rfl rfl ⟨Nat.le_of_ble_eq_true rfl, Nat.le_of_ble_eq_true rfl⟩ (by simp [cat_rf, cat_i, cat_j]) dL_law_627 ?_
            refine k_icmp_eq cx 718 dL_law_630 (by decide) (fun c295 => ?_) (fun c295 => ?_)
            · have h := ite_t h c295
              exact Kx20 _ (Option.some.inj h)
            · have h := ite_f h c295
              refine k_iconst cx 0 dL_law_633 (by decide) ?_
              have h := Option.some.inj h
              have h := sb_ret h Hx20
              have h := sb_ret h Hx14
              exact k_lawret cx hr hlk hb (law_v h h1) dL_law_634
          | 17, ho =>
            cases ho
            have hv : ((hpA τ a15 j18) &&& 31) = 17 := Int32.toInt_inj.mp (by rw [hs]; rfl)
            have h := ite_f h (show ¬ ((hpA τ a15 j18) &&& 31) = 0 from fun q => by rw [hv] at q; revert q; decide)
            have h := ite_f h (show ¬ ((hpA τ a15 j18) &&& 31) = 1 from fun q => by rw [hv] at q; revert q; decide)
            have h := ite_f h (show ¬ ((hpA τ a15 j18) &&& 31) = 2 from fun q => by rw [hv] at q; revert q; decide)
            have h := ite_f h (show ¬ ((hpA τ a15 j18) &&& 31) = 3 from fun q => by rw [hv] at q; revert q; decide)
            have h := ite_f h (show ¬ ((hpA τ a15 j18) &&& 31) = 4 from fun q => by rw [hv] at q; revert q; decide)
            have h := ite_f h (show ¬ ((hpA τ a15 j18) &&& 31) = 5 from fun q => by rw [hv] at q; revert q; decide)
            have h := ite_f h (show ¬ ((hpA τ a15 j18) &&& 31) = 6 from fun q => by rw [hv] at q; revert q; decide)
            have h := ite_f h (show ¬ ((hpA τ a15 j18) &&& 31) = 7 from fun q => by rw [hv] at q; revert q; decide)
            have h := ite_f h (show ¬ ((hpA τ a15 j18) &&& 31) = 8 from fun q => by rw [hv] at q; revert q; decide)
            have h := ite_f h (show ¬ ((hpA τ a15 j18) &&& 31) = 9 from fun q => by rw [hv] at q; revert q; decide)
            have h := ite_f h (show ¬ ((hpA τ a15 j18) &&& 31) = 10 from fun q => by rw [hv] at q; revert q; decide)
            have h := ite_f h (show ¬ ((hpA τ a15 j18) &&& 31) = 11 from fun q => by rw [hv] at q; revert q; decide)
            have h := ite_f h (show ¬ ((hpA τ a15 j18) &&& 31) = 12 from fun q => by rw [hv] at q; revert q; decide)
            have h := ite_f h (show ¬ ((hpA τ a15 j18) &&& 31) = 13 from fun q => by rw [hv] at q; revert q; decide)
            have h := ite_f h (show ¬ ((hpA τ a15 j18) &&& 31) = 14 from fun q => by rw [hv] at q; revert q; decide)
            have h := ite_f h (show ¬ ((hpA τ a15 j18) &&& 31) = 15 from fun q => by rw [hv] at q; revert q; decide)
            have h := ite_f h (show ¬ ((hpA τ a15 j18) &&& 31) = 16 from fun q => by rw [hv] at q; revert q; decide)
            have h := ite_t h hv
            refine ⟨by decide, ?_⟩
            refine k_aload_n cx 1 dL_law_635 rfl rfl ?_
            refine k_aload_n cx 0 dL_law_636 rfl rfl ?_
            refine k_iload_n cx 3 dL_law_637 rfl rfl ?_
            refine k_iconst cx 1 dL_law_638 (by decide) ?_
            refine k_iadd cx dL_law_639 ?_
            obtain ⟨j296, g297, h⟩ := bind_ok h
            refine k_iald cx g16 g297 dL_law_640 ?_
            obtain ⟨a298, g299, h⟩ := bind_ok h
            obtain ⟨q300, g301, h⟩ := bind_ok h
            refine k_callV cx iv_L_87 (ci := 10) rfl (by decide) (w_X10_bestWidth (dn_some g299).2 g301) g299 (As := [.int (hpA τ a15 j296)]) rfl rfl ⟨Nat.le_of_ble_eq_true rfl, Nat.le_of_ble_eq_true rfl⟩ (by simp [cat_rf, cat_i, cat_j]) dL_law_641 ?_
            refine k_aload_n cx 2 dL_law_644 rfl rfl ?_
            refine k_aload_n cx 0 dL_law_645 rfl rfl ?_
            refine k_iload_n cx 3 dL_law_646 rfl rfl ?_
            refine k_iconst cx 1 dL_law_647 (by decide) ?_
            refine k_iadd cx dL_law_648 ?_
            obtain ⟨a302, g303, h⟩ := bind_ok h
            obtain ⟨j304, g305, h⟩ := bind_ok h
            refine k_iald cx g303 g305 dL_law_649 ?_
            obtain ⟨a306, g307, h⟩ := bind_ok h
            obtain ⟨q308, g309, h⟩ := bind_ok h
            refine k_callV cx iv_L_90 (ci := 11) rfl (by decide) (w_X11_bestWidth (dn_some g307).2 g309) g307 (As := [.int (hpA q300.2 a302 j304)]) rfl rfl ⟨Nat.le_of_ble_eq_true rfl, Nat.le_of_ble_eq_true rfl⟩ (by simp [cat_rf, cat_i, cat_j]) dL_law_650 ?_
            refine k_icmp_eq cx 718 dL_law_653 (by decide) (fun c310 => ?_) (fun c310 => ?_)
            · have h := ite_t h c310
              exact Kx20 _ (Option.some.inj h)
            · have h := ite_f h c310
              refine k_iconst cx 0 dL_law_656 (by decide) ?_
              have h := Option.some.inj h
              have h := sb_ret h Hx20
              have h := sb_ret h Hx14
              exact k_lawret cx hr hlk hb (law_v h h1) dL_law_657
          | 18, ho =>
            cases ho
            have hv : ((hpA τ a15 j18) &&& 31) = 18 := Int32.toInt_inj.mp (by rw [hs]; rfl)
            have h := ite_f h (show ¬ ((hpA τ a15 j18) &&& 31) = 0 from fun q => by rw [hv] at q; revert q; decide)
            have h := ite_f h (show ¬ ((hpA τ a15 j18) &&& 31) = 1 from fun q => by rw [hv] at q; revert q; decide)
            have h := ite_f h (show ¬ ((hpA τ a15 j18) &&& 31) = 2 from fun q => by rw [hv] at q; revert q; decide)
            have h := ite_f h (show ¬ ((hpA τ a15 j18) &&& 31) = 3 from fun q => by rw [hv] at q; revert q; decide)
            have h := ite_f h (show ¬ ((hpA τ a15 j18) &&& 31) = 4 from fun q => by rw [hv] at q; revert q; decide)
            have h := ite_f h (show ¬ ((hpA τ a15 j18) &&& 31) = 5 from fun q => by rw [hv] at q; revert q; decide)
            have h := ite_f h (show ¬ ((hpA τ a15 j18) &&& 31) = 6 from fun q => by rw [hv] at q; revert q; decide)
            have h := ite_f h (show ¬ ((hpA τ a15 j18) &&& 31) = 7 from fun q => by rw [hv] at q; revert q; decide)
            have h := ite_f h (show ¬ ((hpA τ a15 j18) &&& 31) = 8 from fun q => by rw [hv] at q; revert q; decide)
            have h := ite_f h (show ¬ ((hpA τ a15 j18) &&& 31) = 9 from fun q => by rw [hv] at q; revert q; decide)
            have h := ite_f h (show ¬ ((hpA τ a15 j18) &&& 31) = 10 from fun q => by rw [hv] at q; revert q; decide)
            have h := ite_f h (show ¬ ((hpA τ a15 j18) &&& 31) = 11 from fun q => by rw [hv] at q; revert q; decide)
            have h := ite_f h (show ¬ ((hpA τ a15 j18) &&& 31) = 12 from fun q => by rw [hv] at q; revert q; decide)
            have h := ite_f h (show ¬ ((hpA τ a15 j18) &&& 31) = 13 from fun q => by rw [hv] at q; revert q; decide)
            have h := ite_f h (show ¬ ((hpA τ a15 j18) &&& 31) = 14 from fun q => by rw [hv] at q; revert q; decide)
            have h := ite_f h (show ¬ ((hpA τ a15 j18) &&& 31) = 15 from fun q => by rw [hv] at q; revert q; decide)
            have h := ite_f h (show ¬ ((hpA τ a15 j18) &&& 31) = 16 from fun q => by rw [hv] at q; revert q; decide)
            have h := ite_f h (show ¬ ((hpA τ a15 j18) &&& 31) = 17 from fun q => by rw [hv] at q; revert q; decide)
            have h := ite_t h hv
            refine ⟨by decide, ?_⟩
            refine k_aload_n cx 1 dL_law_658 rfl rfl ?_
            refine k_aload_n cx 0 dL_law_659 rfl rfl ?_
            refine k_iload_n cx 3 dL_law_660 rfl rfl ?_
            refine k_iconst cx 1 dL_law_661 (by decide) ?_
            refine k_iadd cx dL_law_662 ?_
            obtain ⟨j311, g312, h⟩ := bind_ok h
            refine k_iald cx g16 g312 dL_law_663 ?_
            obtain ⟨a313, g314, h⟩ := bind_ok h
            obtain ⟨q315, g316, h⟩ := bind_ok h
            refine k_callV cx iv_L_91 (ci := 10) rfl (by decide) (w_X10_leastHeight (dn_some g314).2 g316) g314 (As := [.int (hpA τ a15 j311)]) rfl rfl ⟨Nat.le_of_ble_eq_true rfl, Nat.le_of_ble_eq_true rfl⟩ (by simp [cat_rf, cat_i, cat_j]) dL_law_664 ?_
            refine k_aload_n cx 2 dL_law_667 rfl rfl ?_
            refine k_aload_n cx 0 dL_law_668 rfl rfl ?_
            refine k_iload_n cx 3 dL_law_669 rfl rfl ?_
            refine k_iconst cx 1 dL_law_670 (by decide) ?_
            refine k_iadd cx dL_law_671 ?_
            obtain ⟨a317, g318, h⟩ := bind_ok h
            obtain ⟨j319, g320, h⟩ := bind_ok h
            refine k_iald cx g318 g320 dL_law_672 ?_
            obtain ⟨a321, g322, h⟩ := bind_ok h
            obtain ⟨q323, g324, h⟩ := bind_ok h
            refine k_callV cx iv_L_94 (ci := 11) rfl (by decide) (w_X11_leastHeight (dn_some g322).2 g324) g322 (As := [.int (hpA q315.2 a317 j319)]) rfl rfl ⟨Nat.le_of_ble_eq_true rfl, Nat.le_of_ble_eq_true rfl⟩ (by simp [cat_rf, cat_i, cat_j]) dL_law_673 ?_
            refine k_icmp_eq cx 718 dL_law_676 (by decide) (fun c325 => ?_) (fun c325 => ?_)
            · have h := ite_t h c325
              exact Kx20 _ (Option.some.inj h)
            · have h := ite_f h c325
              refine k_iconst cx 0 dL_law_679 (by decide) ?_
              have h := Option.some.inj h
              have h := sb_ret h Hx20
              have h := sb_ret h Hx14
              exact k_lawret cx hr hlk hb (law_v h h1) dL_law_680
          | 19, ho =>
            cases ho
            have hv : ((hpA τ a15 j18) &&& 31) = 19 := Int32.toInt_inj.mp (by rw [hs]; rfl)
            have h := ite_f h (show ¬ ((hpA τ a15 j18) &&& 31) = 0 from fun q => by rw [hv] at q; revert q; decide)
            have h := ite_f h (show ¬ ((hpA τ a15 j18) &&& 31) = 1 from fun q => by rw [hv] at q; revert q; decide)
            have h := ite_f h (show ¬ ((hpA τ a15 j18) &&& 31) = 2 from fun q => by rw [hv] at q; revert q; decide)
            have h := ite_f h (show ¬ ((hpA τ a15 j18) &&& 31) = 3 from fun q => by rw [hv] at q; revert q; decide)
            have h := ite_f h (show ¬ ((hpA τ a15 j18) &&& 31) = 4 from fun q => by rw [hv] at q; revert q; decide)
            have h := ite_f h (show ¬ ((hpA τ a15 j18) &&& 31) = 5 from fun q => by rw [hv] at q; revert q; decide)
            have h := ite_f h (show ¬ ((hpA τ a15 j18) &&& 31) = 6 from fun q => by rw [hv] at q; revert q; decide)
            have h := ite_f h (show ¬ ((hpA τ a15 j18) &&& 31) = 7 from fun q => by rw [hv] at q; revert q; decide)
            have h := ite_f h (show ¬ ((hpA τ a15 j18) &&& 31) = 8 from fun q => by rw [hv] at q; revert q; decide)
            have h := ite_f h (show ¬ ((hpA τ a15 j18) &&& 31) = 9 from fun q => by rw [hv] at q; revert q; decide)
            have h := ite_f h (show ¬ ((hpA τ a15 j18) &&& 31) = 10 from fun q => by rw [hv] at q; revert q; decide)
            have h := ite_f h (show ¬ ((hpA τ a15 j18) &&& 31) = 11 from fun q => by rw [hv] at q; revert q; decide)
            have h := ite_f h (show ¬ ((hpA τ a15 j18) &&& 31) = 12 from fun q => by rw [hv] at q; revert q; decide)
            have h := ite_f h (show ¬ ((hpA τ a15 j18) &&& 31) = 13 from fun q => by rw [hv] at q; revert q; decide)
            have h := ite_f h (show ¬ ((hpA τ a15 j18) &&& 31) = 14 from fun q => by rw [hv] at q; revert q; decide)
            have h := ite_f h (show ¬ ((hpA τ a15 j18) &&& 31) = 15 from fun q => by rw [hv] at q; revert q; decide)
            have h := ite_f h (show ¬ ((hpA τ a15 j18) &&& 31) = 16 from fun q => by rw [hv] at q; revert q; decide)
            have h := ite_f h (show ¬ ((hpA τ a15 j18) &&& 31) = 17 from fun q => by rw [hv] at q; revert q; decide)
            have h := ite_f h (show ¬ ((hpA τ a15 j18) &&& 31) = 18 from fun q => by rw [hv] at q; revert q; decide)
            have h := ite_t h hv
            refine ⟨by decide, ?_⟩
            refine k_aload_n cx 1 dL_law_681 rfl rfl ?_
            refine k_aload_n cx 0 dL_law_682 rfl rfl ?_
            refine k_iload_n cx 3 dL_law_683 rfl rfl ?_
            refine k_iconst cx 1 dL_law_684 (by decide) ?_
            refine k_iadd cx dL_law_685 ?_
            obtain ⟨j326, g327, h⟩ := bind_ok h
            refine k_iald cx g16 g327 dL_law_686 ?_
            obtain ⟨a328, g329, h⟩ := bind_ok h
            obtain ⟨q330, g331, h⟩ := bind_ok h
            refine k_callV cx iv_L_95 (ci := 10) rfl (by decide) (w_X10_count (dn_some g329).2 g331) g329 (As := [.int (hpA τ a15 j326)]) rfl rfl ⟨Nat.le_of_ble_eq_true rfl, Nat.le_of_ble_eq_true rfl⟩ (by simp [cat_rf, cat_i, cat_j]) dL_law_687 ?_
            refine k_aload_n cx 2 dL_law_690 rfl rfl ?_
            refine k_aload_n cx 0 dL_law_691 rfl rfl ?_
            refine k_iload_n cx 3 dL_law_692 rfl rfl ?_
            refine k_iconst cx 1 dL_law_693 (by decide) ?_
            refine k_iadd cx dL_law_694 ?_
            obtain ⟨j332, g333, h⟩ := bind_ok h
            refine k_iald cx g16 g333 dL_law_695 ?_
            obtain ⟨a334, g335, h⟩ := bind_ok h
            obtain ⟨q336, g337, h⟩ := bind_ok h
            refine k_callV cx iv_L_98 (ci := 11) rfl (by decide) (w_X11_count (dn_some g335).2 g337) g335 (As := [.int (hpA τ a15 j332)]) rfl rfl ⟨Nat.le_of_ble_eq_true rfl, Nat.le_of_ble_eq_true rfl⟩ (by simp [cat_rf, cat_i, cat_j]) dL_law_696 ?_
            refine k_icmp_eq cx 718 dL_law_699 (by decide) (fun c338 => ?_) (fun c338 => ?_)
            · have h := ite_t h c338
              exact Kx20 _ (Option.some.inj h)
            · have h := ite_f h c338
              refine k_iconst cx 0 dL_law_702 (by decide) ?_
              have h := Option.some.inj h
              have h := sb_ret h Hx20
              have h := sb_ret h Hx14
              exact k_lawret cx hr hlk hb (law_v h h1) dL_law_703
          | 20, ho =>
            cases ho
            have hv : ((hpA τ a15 j18) &&& 31) = 20 := Int32.toInt_inj.mp (by rw [hs]; rfl)
            have h := ite_f h (show ¬ ((hpA τ a15 j18) &&& 31) = 0 from fun q => by rw [hv] at q; revert q; decide)
            have h := ite_f h (show ¬ ((hpA τ a15 j18) &&& 31) = 1 from fun q => by rw [hv] at q; revert q; decide)
            have h := ite_f h (show ¬ ((hpA τ a15 j18) &&& 31) = 2 from fun q => by rw [hv] at q; revert q; decide)
            have h := ite_f h (show ¬ ((hpA τ a15 j18) &&& 31) = 3 from fun q => by rw [hv] at q; revert q; decide)
            have h := ite_f h (show ¬ ((hpA τ a15 j18) &&& 31) = 4 from fun q => by rw [hv] at q; revert q; decide)
            have h := ite_f h (show ¬ ((hpA τ a15 j18) &&& 31) = 5 from fun q => by rw [hv] at q; revert q; decide)
            have h := ite_f h (show ¬ ((hpA τ a15 j18) &&& 31) = 6 from fun q => by rw [hv] at q; revert q; decide)
            have h := ite_f h (show ¬ ((hpA τ a15 j18) &&& 31) = 7 from fun q => by rw [hv] at q; revert q; decide)
            have h := ite_f h (show ¬ ((hpA τ a15 j18) &&& 31) = 8 from fun q => by rw [hv] at q; revert q; decide)
            have h := ite_f h (show ¬ ((hpA τ a15 j18) &&& 31) = 9 from fun q => by rw [hv] at q; revert q; decide)
            have h := ite_f h (show ¬ ((hpA τ a15 j18) &&& 31) = 10 from fun q => by rw [hv] at q; revert q; decide)
            have h := ite_f h (show ¬ ((hpA τ a15 j18) &&& 31) = 11 from fun q => by rw [hv] at q; revert q; decide)
            have h := ite_f h (show ¬ ((hpA τ a15 j18) &&& 31) = 12 from fun q => by rw [hv] at q; revert q; decide)
            have h := ite_f h (show ¬ ((hpA τ a15 j18) &&& 31) = 13 from fun q => by rw [hv] at q; revert q; decide)
            have h := ite_f h (show ¬ ((hpA τ a15 j18) &&& 31) = 14 from fun q => by rw [hv] at q; revert q; decide)
            have h := ite_f h (show ¬ ((hpA τ a15 j18) &&& 31) = 15 from fun q => by rw [hv] at q; revert q; decide)
            have h := ite_f h (show ¬ ((hpA τ a15 j18) &&& 31) = 16 from fun q => by rw [hv] at q; revert q; decide)
            have h := ite_f h (show ¬ ((hpA τ a15 j18) &&& 31) = 17 from fun q => by rw [hv] at q; revert q; decide)
            have h := ite_f h (show ¬ ((hpA τ a15 j18) &&& 31) = 18 from fun q => by rw [hv] at q; revert q; decide)
            have h := ite_f h (show ¬ ((hpA τ a15 j18) &&& 31) = 19 from fun q => by rw [hv] at q; revert q; decide)
            have h := ite_t h hv
            refine ⟨by decide, ?_⟩
            refine k_aload_n cx 1 dL_law_704 rfl rfl ?_
            obtain ⟨a339, g340, h⟩ := bind_ok h
            obtain ⟨q341, g342, h⟩ := bind_ok h
            refine k_callV cx iv_L_99 (ci := 10) rfl (by decide) (w_X10_digest (dn_some g340).2 g342) g340 (As := []) rfl rfl ⟨Nat.le_of_ble_eq_true rfl, Nat.le_of_ble_eq_true rfl⟩ (by simp [cat_rf, cat_i, cat_j]) dL_law_705 ?_
            refine k_aload_n cx 2 dL_law_708 rfl rfl ?_
            obtain ⟨a343, g344, h⟩ := bind_ok h
            obtain ⟨q345, g346, h⟩ := bind_ok h
            refine k_callV cx iv_L_103 (ci := 11) rfl (by decide) (w_X11_digest (dn_some g344).2 g346) g344 (As := []) rfl rfl ⟨Nat.le_of_ble_eq_true rfl, Nat.le_of_ble_eq_true rfl⟩ (by simp [cat_rf, cat_i, cat_j]) dL_law_709 ?_
            refine k_lcmp cx dL_law_712 ?_
            refine k_if_eq cx 718 dL_law_713 (by decide) (fun c347 => ?_) (fun c347 => ?_)
            · have h := ite_t h c347
              exact Kx20 _ (Option.some.inj h)
            · have h := ite_f h c347
              refine k_iconst cx 0 dL_law_716 (by decide) ?_
              have h := Option.some.inj h
              have h := sb_ret h Hx20
              have h := sb_ret h Hx14
              exact k_lawret cx hr hlk hb (law_v h h1) dL_law_717
          | k + 21, ho => exact absurd ho (by simp)
  refine k_sub [3, 2, 1, 0] rfl ?_
  exact KLx14 FU _ _ hxx14

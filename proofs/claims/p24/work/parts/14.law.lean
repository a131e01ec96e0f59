-- ===== end of PART A; then your names; then what follows =====
/-! THE CLAIM OUT OF ONE WALK OF THE LAW'S BODY. Your part is whole_start (and what it stands on); all else here is the same for every law, but numbers. -/
def R_law : String := "PoemPagesLaw"
def lw_P (b : Addr) (xs : List Int32) (args : Array Value) (s : State) : Prop := args = #[.ref b] ∧ s.IntsAt b xs ∧ xs.length ≤ 260 ∧ (Jvm.Cond.and given_1 narrow_1).before args s = true
def lw_Q (_ : Array Value) (s : State) (o : Outcome) (t : State) : Prop := o = .returned (some (.int 1)) ∧ Framed s o t [] 600000 7302250
def lw_Z (below : List Frame) (a : Array Value) (s : State) : State → Prop := fun t => ∃ o, t.status = .running ∧ Ended t below o ∧ lw_Q a s o t
/-- the law's own end, with 1 on the stack, nothing written that was there before, its room as the claim has it -/
theorem lw_ret {p : Program} {l : Launch} {e : Env} {s : State} {m : MethodId} {below : List Frame} {meth : Method} {c : Code} {b : Nat} (hx : p.tables.exec = Jvm.exec) (hb : c.code = code) (hr : meth.sig.returnType = ret) (hlocks : meth.locks = false) {pc : Nat} {H : Heap} {ls : Array Slot} (hdg : decode code pc = .ok (.ireturn, 1)) : W p l e room_1 s m #[Value.ref b] below meth c H [] 600000 7302250 (lw_Z below #[Value.ref b] s) (F0 m pc ls [.int 1]) := by
  intro T hT X
  obtain ⟨fs, hret, hrun, hended, hW, hframe⟩ := X.leave (v := some (.int 1)) (hlocks := hlocks) (fun h => by rw [hr] at h; cases h)
  have hmeth' : T.vm.method? m = some meth := X.method'
  refine ⟨T.setFrames fs, ?_, .returned (some (.int 1)), hrun, hended, rfl, ⟨_, rfl⟩, hW, hframe⟩
  jvm_step X.here [X.here.top, hx, hb, hdg, hmeth', hr, ret, narrow_b1]
  (try refine ⟨rfl, ?_⟩); (try refine ⟨rfl, ?_⟩)
  first | (intro acts; rw [hret _ acts rfl rfl rfl]) | rw [hret _ _ rfl rfl rfl]
  exact Steps.refl _
/-- what holds at the law's entry: the machine, the code, the tables' words (any of lw_tbl by 'hts w (by decide +kernel)'), the script of L ints xs at the cell b, what the Statement gives of the start (any of its parts by flat_of_before) -/
def lw_At (p : Program) (s : State) (m : MethodId) (meth : Method) (c : Code) (b L : Nat) (xs : Nat → Int32) : Prop :=
  p.tables.exec = Jvm.exec ∧ c.code = code ∧ meth.sig.returnType = ret ∧ c.maxLocals = 11 ∧ s.vm.findClass R_law = some m.cls ∧ (∀ w ∈ lw_tbl, w.before #[Value.ref b] s = true) ∧ va_X b L xs s s.heap ∧ b < s.heap.size ∧ meth.locks = false ∧ (Jvm.Cond.and given_1 narrow_1).before #[Value.ref b] s = true
-- ===== YOUR PART BEGINS =====
/-- YOUR PART: from the entry, for every script of at most 260 ints, the law comes to its end with true ('hflags': the launch's flags, for a law that throws: no stack traces) -/
theorem law_v {v : Int32} {σ : St} {ρ : Int32 × St} (h : (v, σ) = ρ) (h1 : ρ.1 = 1) : v = 1 := by subst h; exact h1
abbrev Ol (p : Program) (l : Launch) (e : Env) (s : State) (m : MethodId) (b : Nat) (below : List Frame) (meth : Method) (c : Code) (Γ : GE) (pc : Nat) (L : List (Nat × Value)) (st : List Value) (σ : St) : Prop :=
  Ok p l e room_1 s m #[Value.ref b] below meth c Γ 11 (lw_Z below #[Value.ref b] s) pc L st σ
theorem k_lawret {p : Program} {l : Launch} {e : Env} {s : State} {m : MethodId} {b pc : Nat} {below : List Frame} {meth : Method} {c : Code} {Γ : GE} {σ0 σ : St} {L : List (Nat × Value)} (cx : Cx p room_1 s m #[Value.ref b] c Γ 11 σ0 cL_law RL) (hr : meth.sig.returnType = ret) (hlk : meth.locks = false) (hb : s.heap.size = gB Γ) {v : Int32} (hv : v = 1) (hd : decode cL_law pc = .ok (.ireturn, 1)) : Ol p l e s m b below meth c Γ pc L [.int v] σ := by
  subst hv
  intro H locs ls hR hL hls
  refine va_forget (fun q hq => by rw [hb]; exact hL q hq) ?_
  exact lw_ret cx.1 cx.2.1 hr hlk hd
set_option maxRecDepth 100000 in
set_option maxHeartbeats 8000000 in
theorem w_L_law {p : Program} {l : Launch} {e : Env} {s : State} {m : MethodId} {b : Nat} {below : List Frame} {meth : Method} {c : Code} {Γ : GE} {σ : St} {p1 : Option Nat} {ρ : Int32 × St} (cx : Cx p room_1 s m #[Value.ref b] c Γ 11 σ cL_law RL) (hr : meth.sig.returnType = ret) (hlk : meth.locks = false) (hb : s.heap.size = gB Γ) (h1 : ρ.1 = 1) (h : f_L_law σ p1 = some ρ) : Ol p l e s m b below meth c Γ 0 [(0, va_rf p1)] [] σ := by
  unfold f_L_law at h
  obtain ⟨σ1, g2, h⟩ := bind_ok h
  refine k_new cx nw_L_10 g2 dL_law_0 ?_
  refine k_dup cx (by simp [cat_rf, cat_i, cat_j]) dL_law_3 ?_
  obtain ⟨a3, g4, h⟩ := bind_ok h
  obtain ⟨q5, g6, h⟩ := bind_ok h
  refine k_callI cx iv_L_70 (w_X10_init (dn_some g4).2 g6) (dn_some g4).1 (As := []) rfl rfl ⟨Nat.le_of_ble_eq_true rfl, Nat.le_of_ble_eq_true rfl⟩ (by simp [cat_rf, cat_i, cat_j]) dL_law_4 ?_
  refine k_astore_n cx (i := 1) [(1, va_rf (some (hpN σ))), (0, va_rf p1)] dL_law_7 rfl (by decide) (by simp [cat_rf, cat_i, cat_j]) ?_
  refine k_bipush cx 64 dL_law_8 (by decide) ?_
  obtain ⟨σ7, g8, h⟩ := bind_ok h
  refine k_newarr cx (k := 13) (by decide) g8 ac_int dL_law_10 ?_
  refine k_astore_n cx (i := 2) [(2, va_rf (some (hpN q5))), (1, va_rf (some (hpN σ))), (0, va_rf p1)] dL_law_12 rfl (by decide) (by simp [cat_rf, cat_i, cat_j]) ?_
  refine k_iconst cx 5 dL_law_13 (by decide) ?_
  obtain ⟨σ9, g10, h⟩ := bind_ok h
  refine k_newarr cx (k := 13) (by decide) g10 ac_int dL_law_14 ?_
  refine k_astore_n cx (i := 3) [(3, va_rf (some (hpN σ7))), (2, va_rf (some (hpN q5))), (1, va_rf (some (hpN σ))), (0, va_rf p1)] dL_law_16 rfl (by decide) (by simp [cat_rf, cat_i, cat_j]) ?_
  refine k_bipush cx 64 dL_law_17 (by decide) ?_
  obtain ⟨σ11, g12, h⟩ := bind_ok h
  refine k_newarr cx (k := 13) (by decide) g12 ac_int dL_law_19 ?_
  refine k_astore cx [(4, va_rf (some (hpN σ9))), (3, va_rf (some (hpN σ7))), (2, va_rf (some (hpN q5))), (1, va_rf (some (hpN σ))), (0, va_rf p1)] dL_law_21 (by decide) (by simp [cat_rf, cat_i, cat_j]) ?_
  refine k_aload_n cx 1 dL_law_23 rfl rfl ?_
  obtain ⟨q13, g14, h⟩ := bind_ok h
  refine k_callS cx iv_L_71 (w_L_begins g14) (As := [va_rf (some (hpN σ7))]) rfl rfl ⟨Nat.le_of_ble_eq_true rfl, Nat.le_of_ble_eq_true rfl⟩ (by simp [cat_rf, cat_i, cat_j]) dL_law_24 ?_
  refine k_aload_n cx 3 dL_law_27 rfl rfl ?_
  refine k_iconst cx 0 dL_law_28 (by decide) ?_
  obtain ⟨a15, g16, h⟩ := bind_ok h
  obtain ⟨q17, g18, h⟩ := bind_ok h
  refine k_callV cx iv_L_25 (ci := 10) rfl (by decide) (w_X10_fault (dn_some g16).2 g18) g16 (As := [.int 0]) rfl rfl ⟨Nat.le_of_ble_eq_true rfl, Nat.le_of_ble_eq_true rfl⟩ (by simp [cat_rf, cat_i, cat_j]) dL_law_29 ?_
  refine k_if_ne cx 117 dL_law_32 (by decide) (fun c19 => ?_) (fun c19 => ?_)
  · have h := ite_t h c19
    refine k_iconst cx 0 dL_law_117 (by decide) ?_
    have h := Option.some.inj h
    exact k_lawret cx hr hlk hb (law_v h h1) dL_law_118
  · have h := ite_f h c19
    refine k_aload_n cx 3 dL_law_35 rfl rfl ?_
    refine k_iconst cx 1 dL_law_36 (by decide) ?_
    obtain ⟨q20, g21, h⟩ := bind_ok h
    refine k_callV cx iv_L_25 (ci := 10) rfl (by decide) (w_X10_fault (dn_some g16).2 g21) g16 (As := [.int 1]) rfl rfl ⟨Nat.le_of_ble_eq_true rfl, Nat.le_of_ble_eq_true rfl⟩ (by simp [cat_rf, cat_i, cat_j]) dL_law_37 ?_
    refine k_if_ne cx 117 dL_law_40 (by decide) (fun c22 => ?_) (fun c22 => ?_)
    · have h := ite_t h c22
      refine k_iconst cx 0 dL_law_117 (by decide) ?_
      have h := Option.some.inj h
      exact k_lawret cx hr hlk hb (law_v h h1) dL_law_118
    · have h := ite_f h c22
      refine k_aload_n cx 3 dL_law_43 rfl rfl ?_
      refine k_iconst cx 0 dL_law_44 (by decide) ?_
      obtain ⟨q23, g24, h⟩ := bind_ok h
      refine k_callV cx iv_L_32 (ci := 10) rfl (by decide) (w_X10_insert (dn_some g16).2 g24) g16 (As := [.int 0]) rfl rfl ⟨Nat.le_of_ble_eq_true rfl, Nat.le_of_ble_eq_true rfl⟩ (by simp [cat_rf, cat_i, cat_j]) dL_law_45 ?_
      refine k_sipush cx (-2000) dL_law_48 (by decide) ?_
      refine k_icmp_ne cx 117 dL_law_51 (by decide) (fun c25 => ?_) (fun c25 => ?_)
      · have h := ite_t h c25
        refine k_iconst cx 0 dL_law_117 (by decide) ?_
        have h := Option.some.inj h
        exact k_lawret cx hr hlk hb (law_v h h1) dL_law_118
      · have h := ite_f h c25
        refine k_aload_n cx 3 dL_law_54 rfl rfl ?_
        refine k_iconst cx 1 dL_law_55 (by decide) ?_
        obtain ⟨a26, g27, h⟩ := bind_ok h
        obtain ⟨q28, g29, h⟩ := bind_ok h
        refine k_callV cx iv_L_32 (ci := 10) rfl (by decide) (w_X10_insert (dn_some g27).2 g29) g27 (As := [.int 1]) rfl rfl ⟨Nat.le_of_ble_eq_true rfl, Nat.le_of_ble_eq_true rfl⟩ (by simp [cat_rf, cat_i, cat_j]) dL_law_56 ?_
        refine k_bipush cx (-2) dL_law_59 (by decide) ?_
        refine k_icmp_ne cx 117 dL_law_61 (by decide) (fun c30 => ?_) (fun c30 => ?_)
        · have h := ite_t h c30
          refine k_iconst cx 0 dL_law_117 (by decide) ?_
          have h := Option.some.inj h
          exact k_lawret cx hr hlk hb (law_v h h1) dL_law_118
        · have h := ite_f h c30
          refine k_aload_n cx 3 dL_law_64 rfl rfl ?_
          refine k_iconst cx 0 dL_law_65 (by decide) ?_
          obtain ⟨a31, g32, h⟩ := bind_ok h
          obtain ⟨q33, g34, h⟩ := bind_ok h
          refine k_callV cx iv_L_75 (ci := 10) rfl (by decide) (w_X10_replace (dn_some g32).2 g34) g32 (As := [.int 0]) rfl rfl ⟨Nat.le_of_ble_eq_true rfl, Nat.le_of_ble_eq_true rfl⟩ (by simp [cat_rf, cat_i, cat_j]) dL_law_66 ?_
          refine k_bipush cx (-2) dL_law_69 (by decide) ?_
          refine k_icmp_ne cx 117 dL_law_71 (by decide) (fun c35 => ?_) (fun c35 => ?_)
          · have h := ite_t h c35
            refine k_iconst cx 0 dL_law_117 (by decide) ?_
            have h := Option.some.inj h
            exact k_lawret cx hr hlk hb (law_v h h1) dL_law_118
          · have h := ite_f h c35
            refine k_aload_n cx 3 dL_law_74 rfl rfl ?_
            refine k_iconst cx 0 dL_law_75 (by decide) ?_
            obtain ⟨a36, g37, h⟩ := bind_ok h
            obtain ⟨q38, g39, h⟩ := bind_ok h
            refine k_callV cx iv_L_78 (ci := 10) rfl (by decide) (w_X10_remove (dn_some g37).2 g39) g37 (As := [.int 0]) rfl rfl ⟨Nat.le_of_ble_eq_true rfl, Nat.le_of_ble_eq_true rfl⟩ (by simp [cat_rf, cat_i, cat_j]) dL_law_76 ?_
            refine k_bipush cx (-2) dL_law_79 (by decide) ?_
            refine k_icmp_ne cx 117 dL_law_81 (by decide) (fun c40 => ?_) (fun c40 => ?_)
            · have h := ite_t h c40
              refine k_iconst cx 0 dL_law_117 (by decide) ?_
              have h := Option.some.inj h
              exact k_lawret cx hr hlk hb (law_v h h1) dL_law_118
            · have h := ite_f h c40
              refine k_aload_n cx 3 dL_law_84 rfl rfl ?_
              refine k_iconst cx 0 dL_law_85 (by decide) ?_
              refine k_iconst cx 1 dL_law_86 (by decide) ?_
              obtain ⟨a41, g42, h⟩ := bind_ok h
              obtain ⟨q43, g44, h⟩ := bind_ok h
              refine k_callV cx iv_L_81 (ci := 10) rfl (by decide) (w_X10_toggle (dn_some g42).2 g44) g42 (As := [.int 0, .int 1]) rfl rfl ⟨Nat.le_of_ble_eq_true rfl, Nat.le_of_ble_eq_true rfl⟩ (by simp [cat_rf, cat_i, cat_j]) dL_law_87 ?_
              refine k_bipush cx (-2) dL_law_90 (by decide) ?_
              refine k_icmp_ne cx 117 dL_law_92 (by decide) (fun c45 => ?_) (fun c45 => ?_)
              · have h := ite_t h c45
                refine k_iconst cx 0 dL_law_117 (by decide) ?_
                have h := Option.some.inj h
                exact k_lawret cx hr hlk hb (law_v h h1) dL_law_118
              · have h := ite_f h c45
                refine k_aload_n cx 3 dL_law_95 rfl rfl ?_
                refine k_iconst cx 0 dL_law_96 (by decide) ?_
                refine k_iconst cx 0 dL_law_97 (by decide) ?_
                refine k_iconst cx 0 dL_law_98 (by decide) ?_
                obtain ⟨a46, g47, h⟩ := bind_ok h
                obtain ⟨q48, g49, h⟩ := bind_ok h
                refine k_callV cx iv_L_66 (ci := 10) rfl (by decide) (w_X10_at (dn_some g47).2 g49) g47 (As := [.int 0, .int 0, .int 0]) rfl rfl ⟨Nat.le_of_ble_eq_true rfl, Nat.le_of_ble_eq_true rfl⟩ (by simp [cat_rf, cat_i, cat_j]) dL_law_99 ?_
                refine k_bipush cx (-2) dL_law_102 (by decide) ?_
                refine k_icmp_ne cx 117 dL_law_104 (by decide) (fun c50 => ?_) (fun c50 => ?_)
                · have h := ite_t h c50
                  refine k_iconst cx 0 dL_law_117 (by decide) ?_
                  have h := Option.some.inj h
                  exact k_lawret cx hr hlk hb (law_v h h1) dL_law_118
                · have h := ite_f h c50
                  refine k_aload_n cx 3 dL_law_107 rfl rfl ?_
                  refine k_aload_n cx 2 dL_law_108 rfl rfl ?_
                  refine k_aload cx 0 dL_law_109 rfl ?_
                  obtain ⟨q51, g52, h⟩ := bind_ok h
                  refine k_callS cx iv_L_85 (w_L_areLines g52) (As := [va_rf (some (hpN σ)), va_rf (some (hpN q5)), va_rf (some (hpN σ9))]) rfl rfl ⟨Nat.le_of_ble_eq_true rfl, Nat.le_of_ble_eq_true rfl⟩ (by simp [cat_rf, cat_i, cat_j]) dL_law_111 ?_
                  refine k_if_ne cx 119 dL_law_114 (by decide) (fun c53 => ?_) (fun c53 => ?_)
                  · have h := ite_t h c53
                    refine k_iconst cx 0 dL_law_119 (by decide) ?_
                    refine k_istore cx [(5, .int 0), (4, va_rf (some (hpN σ9))), (3, va_rf (some (hpN σ7))), (2, va_rf (some (hpN q5))), (1, va_rf (some (hpN σ))), (0, va_rf p1)] dL_law_120 (by decide) (by simp [cat_rf, cat_i, cat_j]) ?_
                    obtain ⟨x55, hxx55, Hx55⟩ := sb_ok h
                    have Kx55 : ∀ wx55, .inr wx55 = x55 → Ol p l e s m b below meth c Γ 539 [] [] wx55 := by
                      intro wx55 hw
                      have h := sb_inr hw Hx55
                      refine k_iconst cx 1 dL_law_539 (by decide) ?_
                      have h := Option.some.inj h
                      exact k_lawret cx hr hlk hb (law_v h h1) dL_law_540
                    have KLx55 : ∀ (n : Nat) (v5_122 : Int32) (τ122 : St), LL_law_122 n p1 (some (hpN σ)) (some (hpN q5)) (some (hpN σ7)) (some (hpN σ9)) v5_122 τ122 = some x55 → Ol p l e s m b below meth c Γ 122 [(0, va_rf p1), (1, va_rf (some (hpN σ))), (2, va_rf (some (hpN q5))), (3, va_rf (some (hpN σ7))), (4, va_rf (some (hpN σ9))), (5, .int v5_122)] [] τ122 := by
                      intro n
                      induction n with
                      | zero => intro _ _ h; cases (show (none : Option _) = some x55 from h)
                      | succ n ihx55 =>
                        intro v5_122 τ122 h
                        rw [LL_law_122] at h
                        refine k_iload cx 5 dL_law_122 rfl ?_
                        refine k_bipush cx 12 dL_law_124 (by decide) ?_
                        refine k_icmp_ge cx 539 dL_law_126 (by decide) (fun c56 => ?_) (fun c56 => ?_)
                        · have h := ite_t h c56
                          refine k_sub [] rfl ?_
                          exact Kx55 _ (Option.some.inj h)
                        · have h := ite_f h c56
                          refine k_aload_n cx 0 dL_law_129 rfl rfl ?_
                          refine k_iconst cx 2 dL_law_130 (by decide) ?_
                          refine k_iload cx 5 dL_law_131 rfl ?_
                          refine k_imul cx dL_law_133 ?_
                          obtain ⟨q57, g58, h⟩ := bind_ok h
                          refine k_callS cx iv_L_89 (w_L_cell g58) (As := [va_rf p1, .int (2 * v5_122)]) rfl rfl ⟨Nat.le_of_ble_eq_true rfl, Nat.le_of_ble_eq_true rfl⟩ (by simp [cat_rf, cat_i, cat_j]) dL_law_134 ?_
                          refine k_istore cx [(6, .int q57), (0, va_rf p1), (1, va_rf (some (hpN σ))), (2, va_rf (some (hpN q5))), (3, va_rf (some (hpN σ7))), (4, va_rf (some (hpN σ9))), (5, .int v5_122)] dL_law_137 (by decide) (by simp [cat_rf, cat_i, cat_j]) ?_
                          refine k_aload_n cx 1 dL_law_139 rfl rfl ?_
                          refine k_iconst cx 2 dL_law_140 (by decide) ?_
                          refine k_iload cx 6 dL_law_141 rfl ?_
                          refine k_imul cx dL_law_143 ?_
                          refine k_iconst cx 1 dL_law_144 (by decide) ?_
                          refine k_iadd cx dL_law_145 ?_
                          obtain ⟨q59, g60, h⟩ := bind_ok h
                          refine k_callS cx iv_L_89 (w_L_cell g60) (As := [va_rf p1, .int ((2 * v5_122) + 1)]) rfl rfl ⟨Nat.le_of_ble_eq_true rfl, Nat.le_of_ble_eq_true rfl⟩ (by simp [cat_rf, cat_i, cat_j]) dL_law_146 ?_
                          refine k_istore cx [(7, .int q59), (6, .int q57), (0, va_rf p1), (1, va_rf (some (hpN σ))), (2, va_rf (some (hpN q5))), (3, va_rf (some (hpN σ7))), (4, va_rf (some (hpN σ9))), (5, .int v5_122)] dL_law_149 (by decide) (by simp [cat_rf, cat_i, cat_j]) ?_
                          refine k_aload_n cx 4 dL_law_151 rfl rfl ?_
                          refine k_bipush cx 60 dL_law_152 (by decide) ?_
                          obtain ⟨a61, g62, h⟩ := bind_ok h
                          obtain ⟨j63, g64, h⟩ := bind_ok h
                          refine k_iald cx g62 g64 dL_law_154 ?_
                          obtain ⟨x65, hxx65, h⟩ := bind_ok h
                          have Kx65 : Ol p l e s m b below meth c Γ 171 [(0, va_rf p1), (1, va_rf (some (hpN σ))), (2, va_rf (some (hpN q5))), (3, va_rf (some (hpN σ7))), (4, va_rf (some (hpN σ9))), (5, .int v5_122), (6, .int q57), (7, .int q59)] [.int x65] τ122 := by
                            refine k_istore cx [(8, .int x65), (0, va_rf p1), (1, va_rf (some (hpN σ))), (2, va_rf (some (hpN q5))), (3, va_rf (some (hpN σ7))), (4, va_rf (some (hpN σ9))), (5, .int v5_122), (6, .int q57), (7, .int q59)] dL_law_171 (by decide) (by simp [cat_rf, cat_i, cat_j]) ?_
                            refine k_aload_n cx 3 dL_law_173 rfl rfl ?_
                            refine k_bipush cx 60 dL_law_174 (by decide) ?_
                            obtain ⟨j71, g72, h⟩ := bind_ok h
                            refine k_iald cx g62 g72 dL_law_176 ?_
                            obtain ⟨x73, hxx73, h⟩ := bind_ok h
                            have Kx73 : Ol p l e s m b below meth c Γ 195 [(0, va_rf p1), (1, va_rf (some (hpN σ))), (2, va_rf (some (hpN q5))), (3, va_rf (some (hpN σ7))), (4, va_rf (some (hpN σ9))), (5, .int v5_122), (6, .int q57), (7, .int q59), (8, .int x65)] [.int x73] τ122 := by
                              obtain ⟨x77, hxx77, h⟩ := bind_ok h
                              have Kx77 : Ol p l e s m b below meth c Γ 498 [(0, va_rf p1), (1, va_rf (some (hpN σ))), (2, va_rf (some (hpN q5))), (3, va_rf (some (hpN σ7))), (4, va_rf (some (hpN σ9))), (5, .int v5_122), (9, .int x77.1)] [] x77.2 := by
                                refine k_aload_n cx 2 dL_law_498 rfl rfl ?_
                                refine k_aload_n cx 3 dL_law_499 rfl rfl ?_
                                refine k_aload cx 4 dL_law_500 rfl ?_
                                obtain ⟨q164, g165, h⟩ := bind_ok h
                                refine k_callS cx iv_L_100 (w_L_breaks g165) (As := [va_rf (some (hpN q5)), va_rf (some (hpN σ7)), va_rf (some (hpN σ9))]) rfl rfl ⟨Nat.le_of_ble_eq_true rfl, Nat.le_of_ble_eq_true rfl⟩ (by simp [cat_rf, cat_i, cat_j]) dL_law_502 ?_
                                refine k_iload cx 6 dL_law_505 rfl ?_
                                refine k_if_eq cx 531 dL_law_507 (by decide) (fun c166 => ?_) (fun c166 => ?_)
                                · have h := ite_t h c166
                                  refine k_iconst cx 0 dL_law_531 (by decide) ?_
                                  have h := Option.some.inj h
                                  have h := sb_ret h Hx55
                                  exact k_lawret cx hr hlk hb (law_v h h1) dL_law_532
                                · have h := ite_f h c166
                                  refine k_aload_n cx 1 dL_law_510 rfl rfl ?_
                                  refine k_aload_n cx 2 dL_law_511 rfl rfl ?_
                                  refine k_aload cx 4 dL_law_512 rfl ?_
                                  obtain ⟨q167, g168, h⟩ := bind_ok h
                                  refine k_callS cx iv_L_85 (w_L_areLines g168) (As := [va_rf (some (hpN σ)), va_rf (some (hpN q5)), va_rf (some (hpN σ9))]) rfl rfl ⟨Nat.le_of_ble_eq_true rfl, Nat.le_of_ble_eq_true rfl⟩ (by simp [cat_rf, cat_i, cat_j]) dL_law_514 ?_
                                  refine k_if_eq cx 531 dL_law_517 (by decide) (fun c169 => ?_) (fun c169 => ?_)
                                  · have h := ite_t h c169
                                    refine k_iconst cx 0 dL_law_531 (by decide) ?_
                                    have h := Option.some.inj h
                                    have h := sb_ret h Hx55
                                    exact k_lawret cx hr hlk hb (law_v h h1) dL_law_532
                                  · have h := ite_f h c169
                                    refine k_aload_n cx 1 dL_law_520 rfl rfl ?_
                                    refine k_aload_n cx 2 dL_law_521 rfl rfl ?_
                                    refine k_aload_n cx 3 dL_law_522 rfl rfl ?_
                                    refine k_aload cx 4 dL_law_523 rfl ?_
                                    obtain ⟨q170, g171, h⟩ := bind_ok h
                                    refine k_callS cx iv_L_104 (w_L_areRows g171) (As := [va_rf (some (hpN σ)), va_rf (some (hpN q5)), va_rf (some (hpN σ7)), va_rf (some (hpN σ9))]) rfl rfl ⟨Nat.le_of_ble_eq_true rfl, Nat.le_of_ble_eq_true rfl⟩ (by simp [cat_rf, cat_i, cat_j]) dL_law_525 ?_
                                    refine k_if_ne cx 533 dL_law_528 (by decide) (fun c172 => ?_) (fun c172 => ?_)
                                    · have h := ite_t h c172
                                      refine k_iinc cx 5 [(5, .int (v5_122 + 1)), (0, va_rf p1), (1, va_rf (some (hpN σ))), (2, va_rf (some (hpN q5))), (3, va_rf (some (hpN σ7))), (4, va_rf (some (hpN σ9))), (9, .int x77.1)] (v5_122 + 1) dL_law_533 rfl rfl (by decide) (by simp [cat_rf, cat_i, cat_j]) ?_
                                      refine k_goto cx 122 dL_law_536 (by decide) ?_
                                      refine k_sub [1, 2, 3, 4, 5, 0] rfl ?_
                                      exact ihx55 _ _ h
                                    · have h := ite_f h c172
                                      refine k_iconst cx 0 dL_law_531 (by decide) ?_
                                      have h := Option.some.inj h
                                      have h := sb_ret h Hx55
                                      exact k_lawret cx hr hlk hb (law_v h h1) dL_law_532
                              have h := hxx77
                              refine k_switch cx dL_law_195 (by decide) (fun hs => ?_) (by decide) (fun k off ho hs => ?_)
                              · have h0 : ¬ x73 = 0 := fun q => by rw [q] at hs; revert hs; decide
                                have h1 : ¬ x73 = 1 := fun q => by rw [q] at hs; revert hs; decide
                                have h2 : ¬ x73 = 2 := fun q => by rw [q] at hs; revert hs; decide
                                have h3 : ¬ x73 = 3 := fun q => by rw [q] at hs; revert hs; decide
                                have h4 : ¬ x73 = 4 := fun q => by rw [q] at hs; revert hs; decide
                                have h := ite_f h h0
                                have h := ite_f h h1
                                have h := ite_f h h2
                                have h := ite_f h h3
                                have h := ite_f h h4
                                refine k_aload_n cx 1 dL_law_463 rfl rfl ?_
                                refine k_aload_n cx 2 dL_law_464 rfl rfl ?_
                                refine k_aload_n cx 2 dL_law_465 rfl rfl ?_
                                refine k_bipush cx 60 dL_law_466 (by decide) ?_
                                obtain ⟨j154, g155, h⟩ := bind_ok h
                                refine k_iald cx g62 g155 dL_law_468 ?_
                                obtain ⟨x156, hxx156, h⟩ := bind_ok h
                                have Kx156 : Ol p l e s m b below meth c Γ 487 [(0, va_rf p1), (1, va_rf (some (hpN σ))), (2, va_rf (some (hpN q5))), (3, va_rf (some (hpN σ7))), (4, va_rf (some (hpN σ9))), (5, .int v5_122), (6, .int q57), (7, .int q59)] [.int x156, va_rf (some (hpN q5)), va_rf (some (hpN σ))] τ122 := by
                                  refine k_iload cx 6 dL_law_487 rfl ?_
                                  refine k_iload cx 7 dL_law_489 rfl ?_
                                  refine k_iconst cx 1 dL_law_491 (by decide) ?_
                                  refine k_ishr cx dL_law_492 ?_
                                  obtain ⟨q162, g163, h⟩ := bind_ok h
                                  refine k_callS cx iv_L_97 (w_L_inserts g163) (As := [va_rf (some (hpN σ)), va_rf (some (hpN q5)), .int x156, .int q57, .int (q59 >>> (1 &&& 31))]) rfl rfl ⟨Nat.le_of_ble_eq_true rfl, Nat.le_of_ble_eq_true rfl⟩ (by simp [cat_rf, cat_i, cat_j]) dL_law_493 ?_
                                  refine k_istore cx [(9, .int q162.1), (0, va_rf p1), (1, va_rf (some (hpN σ))), (2, va_rf (some (hpN q5))), (3, va_rf (some (hpN σ7))), (4, va_rf (some (hpN σ9))), (5, .int v5_122), (6, .int q57), (7, .int q59)] dL_law_496 (by decide) (by simp [cat_rf, cat_i, cat_j]) ?_
                                  refine k_sub [1, 2, 3, 4, 5, 6, 0] rfl ?_
                                  obtain rfl := Option.some.inj h
                                  exact Kx77
                                have h := hxx156
                                refine k_if_ne cx 476 dL_law_469 (by decide) (fun c157 => ?_) (fun c157 => ?_)
                                · have h := ite_t h c157
                                  refine k_iload cx 7 dL_law_476 rfl ?_
                                  refine k_aload_n cx 2 dL_law_478 rfl rfl ?_
                                  refine k_bipush cx 60 dL_law_479 (by decide) ?_
                                  obtain ⟨j158, g159, h⟩ := bind_ok h
                                  refine k_iald cx g62 g159 dL_law_481 ?_
                                  refine k_iconst cx 1 dL_law_482 (by decide) ?_
                                  refine k_iadd cx dL_law_483 ?_
                                  obtain ⟨q160, g161, h⟩ := bind_ok h
                                  refine k_callS cx iv_L_15 (w_L_low g161) (As := [.int q59, .int ((hpA τ122 a61 j158) + 1)]) rfl rfl ⟨Nat.le_of_ble_eq_true rfl, Nat.le_of_ble_eq_true rfl⟩ (by simp [cat_rf, cat_i, cat_j]) dL_law_484 ?_
                                  refine k_sub [0, 1, 2, 3, 4, 5, 6, 7] rfl ?_
                                  obtain rfl := Option.some.inj h
                                  exact Kx156
                                · have h := ite_f h c157
                                  refine k_iconst cx 0 dL_law_472 (by decide) ?_
                                  refine k_goto cx 487 dL_law_473 (by decide) ?_
                                  refine k_sub [0, 1, 2, 3, 4, 5, 6, 7] rfl ?_
                                  obtain rfl := Option.some.inj h
                                  exact Kx156
                              · match k, ho with
                                | 0, ho =>
                                  cases ho
                                  have hv : x73 = 0 := Int32.toInt_inj.mp (by rw [hs]; rfl)
                                  have h := ite_t h hv
                                  refine ⟨by decide, ?_⟩
                                  refine k_iload cx 6 dL_law_228 rfl ?_
                                  refine k_iconst cx 2 dL_law_230 (by decide) ?_
                                  obtain ⟨q78, g79, h⟩ := bind_ok h
                                  refine k_callS cx iv_L_15 (w_L_low g79) (As := [.int q57, .int 2]) rfl rfl ⟨Nat.le_of_ble_eq_true rfl, Nat.le_of_ble_eq_true rfl⟩ (by simp [cat_rf, cat_i, cat_j]) dL_law_231 ?_
                                  obtain ⟨x80, hxx80, h⟩ := bind_ok h
                                  have Kx80 : Ol p l e s m b below meth c Γ 244 [(0, va_rf p1), (1, va_rf (some (hpN σ))), (2, va_rf (some (hpN q5))), (3, va_rf (some (hpN σ7))), (4, va_rf (some (hpN σ9))), (5, .int v5_122), (8, .int x65)] [.int x80] τ122 := by
                                    refine k_istore cx [(10, .int x80), (0, va_rf p1), (1, va_rf (some (hpN σ))), (2, va_rf (some (hpN q5))), (3, va_rf (some (hpN σ7))), (4, va_rf (some (hpN σ9))), (5, .int v5_122), (8, .int x65)] dL_law_244 (by decide) (by simp [cat_rf, cat_i, cat_j]) ?_
                                    refine k_aload_n cx 3 dL_law_246 rfl rfl ?_
                                    refine k_bipush cx 10 dL_law_247 (by decide) ?_
                                    refine k_iload cx 7 dL_law_249 rfl ?_
                                    refine k_imul cx dL_law_251 ?_
                                    refine k_iload cx 0 dL_law_252 rfl ?_
                                    refine k_iadd cx dL_law_254 ?_
                                    refine k_iconst cx 1 dL_law_255 (by decide) ?_
                                    refine k_aload_n cx 3 dL_law_256 rfl rfl ?_
                                    refine k_bipush cx 10 dL_law_257 (by decide) ?_
                                    refine k_iload cx 7 dL_law_259 rfl ?_
                                    refine k_imul cx dL_law_261 ?_
                                    refine k_iload cx 0 dL_law_262 rfl ?_
                                    refine k_iadd cx dL_law_264 ?_
                                    obtain ⟨j82, g83, h⟩ := bind_ok h
                                    refine k_iald cx g62 g83 dL_law_265 ?_
                                    refine k_isub cx dL_law_266 ?_
                                    obtain ⟨a84, g85, h⟩ := bind_ok h
                                    obtain ⟨j86, g87, h⟩ := bind_ok h
                                    refine k_iast cx g85 g87 dL_law_267 ?_
                                    refine k_aload_n cx 2 dL_law_268 rfl rfl ?_
                                    refine k_iload cx 7 dL_law_269 rfl ?_
                                    refine k_iload cx 0 dL_law_271 rfl ?_
                                    refine k_bipush cx 6 dL_law_273 (by decide) ?_
                                    obtain ⟨x88, hxx88, h⟩ := bind_ok h
                                    have Kx88 : Ol p l e s m b below meth c Γ 283 [(0, va_rf p1), (1, va_rf (some (hpN σ))), (2, va_rf (some (hpN q5))), (3, va_rf (some (hpN σ7))), (4, va_rf (some (hpN σ9))), (5, .int v5_122), (8, .int x65), (10, .int x80)] [.int x88, .int x65, va_rf (some (hpN σ))] (stA τ122 a84 j86 (1 - (hpA τ122 a61 j82))) := by
                                      obtain ⟨a90, g91, h⟩ := bind_ok h
                                      obtain ⟨q92, g93, h⟩ := bind_ok h
                                      refine k_callV cx iv_L_81 (ci := 10) rfl (by decide) (w_X10_toggle (dn_some g91).2 g93) g91 (As := [.int x65, .int x88]) rfl rfl ⟨Nat.le_of_ble_eq_true rfl, Nat.le_of_ble_eq_true rfl⟩ (by simp [cat_rf, cat_i, cat_j]) dL_law_283 ?_
                                      refine k_aload_n cx 2 dL_law_286 rfl rfl ?_
                                      refine k_bipush cx 10 dL_law_287 (by decide) ?_
                                      refine k_iload cx 6 dL_law_289 rfl ?_
                                      refine k_imul cx dL_law_291 ?_
                                      refine k_iload cx 7 dL_law_292 rfl ?_
                                      refine k_iadd cx dL_law_294 ?_
                                      obtain ⟨a94, g95, h⟩ := bind_ok h
                                      obtain ⟨j96, g97, h⟩ := bind_ok h
                                      refine k_iald cx g95 g97 dL_law_295 ?_
                                      obtain ⟨x98, hxx98, h⟩ := bind_ok h
                                      have Kx98 : Ol p l e s m b below meth c Γ 304 [(0, va_rf p1), (1, va_rf (some (hpN σ))), (2, va_rf (some (hpN q5))), (3, va_rf (some (hpN σ7))), (4, va_rf (some (hpN σ9))), (5, .int v5_122)] [.int x98] q92.2 := by
                                        refine k_istore cx [(9, .int x98), (0, va_rf p1), (1, va_rf (some (hpN σ))), (2, va_rf (some (hpN q5))), (3, va_rf (some (hpN σ7))), (4, va_rf (some (hpN σ9))), (5, .int v5_122)] dL_law_304 (by decide) (by simp [cat_rf, cat_i, cat_j]) ?_
                                        refine k_goto cx 498 dL_law_306 (by decide) ?_
                                        refine k_sub [1, 2, 3, 4, 5, 6, 0] rfl ?_
                                        obtain rfl := Option.some.inj h
                                        exact Kx77
                                      have h := hxx98
                                      refine k_icmp_ne cx 303 dL_law_296 (by decide) (fun c99 => ?_) (fun c99 => ?_)
                                      · have h := ite_t h c99
                                        refine k_iconst cx 0 dL_law_303 (by decide) ?_
                                        refine k_sub [0, 1, 2, 3, 4, 5] rfl ?_
                                        obtain rfl := Option.some.inj h
                                        exact Kx98
                                      · have h := ite_f h c99
                                        refine k_iconst cx 1 dL_law_299 (by decide) ?_
                                        refine k_goto cx 304 dL_law_300 (by decide) ?_
                                        refine k_sub [0, 1, 2, 3, 4, 5] rfl ?_
                                        obtain rfl := Option.some.inj h
                                        exact Kx98
                                    have h := hxx88
                                    refine k_icmp_ne cx 282 dL_law_275 (by decide) (fun c89 => ?_) (fun c89 => ?_)
                                    · have h := ite_t h c89
                                      refine k_iconst cx 0 dL_law_282 (by decide) ?_
                                      refine k_sub [1, 2, 3, 4, 5, 6, 7, 0] rfl ?_
                                      obtain rfl := Option.some.inj h
                                      exact Kx88
                                    · have h := ite_f h c89
                                      refine k_iconst cx 1 dL_law_278 (by decide) ?_
                                      refine k_goto cx 283 dL_law_279 (by decide) ?_
                                      refine k_sub [1, 2, 3, 4, 5, 6, 7, 0] rfl ?_
                                      obtain rfl := Option.some.inj h
                                      exact Kx88
                                  have h := hxx80
                                  refine k_if_ne cx 242 dL_law_234 (by decide) (fun c81 => ?_) (fun c81 => ?_)
                                  · have h := ite_t h c81
                                    refine k_bipush cx 7 dL_law_242 (by decide) ?_
                                    refine k_sub [0, 1, 2, 3, 4, 5, 8] rfl ?_
                                    obtain rfl := Option.some.inj h
                                    exact Kx80
                                  · have h := ite_f h c81
                                    refine k_bipush cx 6 dL_law_237 (by decide) ?_
                                    refine k_goto cx 244 dL_law_239 (by decide) ?_
                                    refine k_sub [0, 1, 2, 3, 4, 5, 8] rfl ?_
                                    obtain rfl := Option.some.inj h
                                    exact Kx80
                                | 1, ho =>
                                  cases ho
                                  have hv : x73 = 1 := Int32.toInt_inj.mp (by rw [hs]; rfl)
                                  have h := ite_f h (show ¬ x73 = 0 from fun q => by rw [hv] at q; revert q; decide)
                                  have h := ite_t h hv
                                  refine ⟨by decide, ?_⟩
                                  refine k_aload_n cx 2 dL_law_309 rfl rfl ?_
                                  refine k_bipush cx 10 dL_law_310 (by decide) ?_
                                  refine k_iload cx 8 dL_law_312 rfl ?_
                                  refine k_imul cx dL_law_314 ?_
                                  obtain ⟨j100, g101, h⟩ := bind_ok h
                                  refine k_iald cx g62 g101 dL_law_315 ?_
                                  refine k_istore cx [(10, .int (hpA τ122 a61 j100)), (0, va_rf p1), (1, va_rf (some (hpN σ))), (2, va_rf (some (hpN q5))), (3, va_rf (some (hpN σ7))), (4, va_rf (some (hpN σ9))), (5, .int v5_122), (6, .int q57), (7, .int q59), (8, .int x65)] dL_law_316 (by decide) (by simp [cat_rf, cat_i, cat_j]) ?_
                                  refine k_aload_n cx 2 dL_law_318 rfl rfl ?_
                                  refine k_aload_n cx 3 dL_law_319 rfl rfl ?_
                                  refine k_iload cx 9 dL_law_320 rfl ?_
                                  refine k_iload cx 7 dL_law_322 rfl ?_
                                  refine k_iload cx 8 dL_law_324 rfl ?_
                                  obtain ⟨q102, g103, h⟩ := bind_ok h
                                  refine k_callS cx iv_L_35 (w_L_types g103) (As := [va_rf (some (hpN σ)), va_rf (some (hpN q5)), .int x65, .int q57, .int q59]) rfl rfl ⟨Nat.le_of_ble_eq_true rfl, Nat.le_of_ble_eq_true rfl⟩ (by simp [cat_rf, cat_i, cat_j]) dL_law_326 ?_
                                  obtain ⟨x104, hxx104, h⟩ := bind_ok h
                                  have Kx104 : Ol p l e s m b below meth c Γ 348 [(0, va_rf p1), (1, va_rf (some (hpN σ))), (2, va_rf (some (hpN q5))), (3, va_rf (some (hpN σ7))), (4, va_rf (some (hpN σ9))), (5, .int v5_122)] [.int x104.1] x104.2 := by
                                    refine k_istore cx [(9, .int x104.1), (0, va_rf p1), (1, va_rf (some (hpN σ))), (2, va_rf (some (hpN q5))), (3, va_rf (some (hpN σ7))), (4, va_rf (some (hpN σ9))), (5, .int v5_122)] dL_law_348 (by decide) (by simp [cat_rf, cat_i, cat_j]) ?_
                                    refine k_goto cx 498 dL_law_350 (by decide) ?_
                                    refine k_sub [1, 2, 3, 4, 5, 6, 0] rfl ?_
                                    obtain rfl := Option.some.inj h
                                    exact Kx77
                                  have h := hxx104
                                  refine k_if_eq cx 347 dL_law_329 (by decide) (fun c105 => ?_) (fun c105 => ?_)
                                  · have h := ite_t h c105
                                    refine k_iconst cx 0 dL_law_347 (by decide) ?_
                                    refine k_sub [1, 2, 3, 4, 5, 6] rfl ?_
                                    obtain rfl := Option.some.inj h
                                    exact Kx104
                                  · have h := ite_f h c105
                                    refine k_aload_n cx 2 dL_law_332 rfl rfl ?_
                                    refine k_iload cx 9 dL_law_333 rfl ?_
                                    obtain ⟨a106, g107, h⟩ := bind_ok h
                                    obtain ⟨q108, g109, h⟩ := bind_ok h
                                    refine k_callV cx iv_L_75 (ci := 10) rfl (by decide) (w_X10_replace (dn_some g107).2 g109) g107 (As := [.int x65]) rfl rfl ⟨Nat.le_of_ble_eq_true rfl, Nat.le_of_ble_eq_true rfl⟩ (by simp [cat_rf, cat_i, cat_j]) dL_law_335 ?_
                                    refine k_iload cx 0 dL_law_338 rfl ?_
                                    refine k_icmp_ne cx 347 dL_law_340 (by decide) (fun c110 => ?_) (fun c110 => ?_)
                                    · have h := ite_t h c110
                                      refine k_iconst cx 0 dL_law_347 (by decide) ?_
                                      refine k_sub [1, 2, 3, 4, 5, 6] rfl ?_
                                      obtain rfl := Option.some.inj h
                                      exact Kx104
                                    · have h := ite_f h c110
                                      refine k_iconst cx 1 dL_law_343 (by decide) ?_
                                      refine k_goto cx 348 dL_law_344 (by decide) ?_
                                      refine k_sub [1, 2, 3, 4, 5, 6] rfl ?_
                                      obtain rfl := Option.some.inj h
                                      exact Kx104
                                | 2, ho =>
                                  cases ho
                                  have hv : x73 = 2 := Int32.toInt_inj.mp (by rw [hs]; rfl)
                                  have h := ite_f h (show ¬ x73 = 0 from fun q => by rw [hv] at q; revert q; decide)
                                  have h := ite_f h (show ¬ x73 = 1 from fun q => by rw [hv] at q; revert q; decide)
                                  have h := ite_t h hv
                                  refine ⟨by decide, ?_⟩
                                  refine k_aload_n cx 1 dL_law_353 rfl rfl ?_
                                  refine k_aload_n cx 3 dL_law_354 rfl rfl ?_
                                  refine k_iload cx 6 dL_law_355 rfl ?_
                                  obtain ⟨q111, g112, h⟩ := bind_ok h
                                  refine k_callS cx iv_L_93 (w_L_sets g112) (As := [va_rf (some (hpN σ)), va_rf (some (hpN σ7)), .int q57]) rfl rfl ⟨Nat.le_of_ble_eq_true rfl, Nat.le_of_ble_eq_true rfl⟩ (by simp [cat_rf, cat_i, cat_j]) dL_law_357 ?_
                                  refine k_istore cx [(9, .int q111.1), (0, va_rf p1), (1, va_rf (some (hpN σ))), (2, va_rf (some (hpN q5))), (3, va_rf (some (hpN σ7))), (4, va_rf (some (hpN σ9))), (5, .int v5_122), (6, .int q57), (7, .int q59), (8, .int x65)] dL_law_360 (by decide) (by simp [cat_rf, cat_i, cat_j]) ?_
                                  refine k_goto cx 498 dL_law_362 (by decide) ?_
                                  refine k_sub [1, 2, 3, 4, 5, 6, 0] rfl ?_
                                  obtain rfl := Option.some.inj h
                                  exact Kx77
                                | 3, ho =>
                                  cases ho
                                  have hv : x73 = 3 := Int32.toInt_inj.mp (by rw [hs]; rfl)
                                  have h := ite_f h (show ¬ x73 = 0 from fun q => by rw [hv] at q; revert q; decide)
                                  have h := ite_f h (show ¬ x73 = 1 from fun q => by rw [hv] at q; revert q; decide)
                                  have h := ite_f h (show ¬ x73 = 2 from fun q => by rw [hv] at q; revert q; decide)
                                  have h := ite_t h hv
                                  refine ⟨by decide, ?_⟩
                                  refine k_aload_n cx 1 dL_law_353 rfl rfl ?_
                                  refine k_aload_n cx 3 dL_law_354 rfl rfl ?_
                                  refine k_iload cx 6 dL_law_355 rfl ?_
                                  obtain ⟨q113, g114, h⟩ := bind_ok h
                                  refine k_callS cx iv_L_93 (w_L_sets g114) (As := [va_rf (some (hpN σ)), va_rf (some (hpN σ7)), .int q57]) rfl rfl ⟨Nat.le_of_ble_eq_true rfl, Nat.le_of_ble_eq_true rfl⟩ (by simp [cat_rf, cat_i, cat_j]) dL_law_357 ?_
                                  refine k_istore cx [(9, .int q113.1), (0, va_rf p1), (1, va_rf (some (hpN σ))), (2, va_rf (some (hpN q5))), (3, va_rf (some (hpN σ7))), (4, va_rf (some (hpN σ9))), (5, .int v5_122), (6, .int q57), (7, .int q59), (8, .int x65)] dL_law_360 (by decide) (by simp [cat_rf, cat_i, cat_j]) ?_
                                  refine k_goto cx 498 dL_law_362 (by decide) ?_
                                  refine k_sub [1, 2, 3, 4, 5, 6, 0] rfl ?_
                                  obtain rfl := Option.some.inj h
                                  exact Kx77
                                | 4, ho =>
                                  cases ho
                                  have hv : x73 = 4 := Int32.toInt_inj.mp (by rw [hs]; rfl)
                                  have h := ite_f h (show ¬ x73 = 0 from fun q => by rw [hv] at q; revert q; decide)
                                  have h := ite_f h (show ¬ x73 = 1 from fun q => by rw [hv] at q; revert q; decide)
                                  have h := ite_f h (show ¬ x73 = 2 from fun q => by rw [hv] at q; revert q; decide)
                                  have h := ite_f h (show ¬ x73 = 3 from fun q => by rw [hv] at q; revert q; decide)
                                  have h := ite_t h hv
                                  refine ⟨by decide, ?_⟩
                                  refine k_aload_n cx 2 dL_law_365 rfl rfl ?_
                                  refine k_bipush cx 60 dL_law_366 (by decide) ?_
                                  refine k_dup2 cx (by simp [cat_rf, cat_i, cat_j]) (by simp [cat_rf, cat_i, cat_j]) dL_law_368 ?_
                                  obtain ⟨j115, g116, h⟩ := bind_ok h
                                  refine k_iald cx g62 g116 dL_law_369 ?_
                                  refine k_iload cx 6 dL_law_370 rfl ?_
                                  refine k_iconst cx 3 dL_law_372 (by decide) ?_
                                  obtain ⟨q117, g118, h⟩ := bind_ok h
                                  refine k_callS cx iv_L_15 (w_L_low g118) (As := [.int q57, .int 3]) rfl rfl ⟨Nat.le_of_ble_eq_true rfl, Nat.le_of_ble_eq_true rfl⟩ (by simp [cat_rf, cat_i, cat_j]) dL_law_373 ?_
                                  obtain ⟨x119, hxx119, h⟩ := bind_ok h
                                  have Kx119 : Ol p l e s m b below meth c Γ 384 [(0, va_rf p1), (1, va_rf (some (hpN σ))), (2, va_rf (some (hpN q5))), (3, va_rf (some (hpN σ7))), (4, va_rf (some (hpN σ9))), (5, .int v5_122), (6, .int q57), (8, .int x65)] [.int x119, .int (hpA τ122 a61 j115), .int 60, va_rf (some (hpN q5))] τ122 := by
                                    refine k_isub cx dL_law_384 ?_
                                    obtain ⟨a121, g122, h⟩ := bind_ok h
                                    obtain ⟨j123, g124, h⟩ := bind_ok h
                                    refine k_iast cx g122 g124 dL_law_385 ?_
                                    refine k_bipush cx 10 dL_law_386 (by decide) ?_
                                    refine k_iload cx 7 dL_law_388 rfl ?_
                                    refine k_imul cx dL_law_390 ?_
                                    refine k_istore cx [(10, .int (10 * x65)), (0, va_rf p1), (1, va_rf (some (hpN σ))), (2, va_rf (some (hpN q5))), (3, va_rf (some (hpN σ7))), (4, va_rf (some (hpN σ9))), (5, .int v5_122), (6, .int q57), (8, .int x65)] dL_law_391 (by decide) (by simp [cat_rf, cat_i, cat_j]) ?_
                                    obtain ⟨x126, hxx126, h⟩ := bind_ok h
                                    have Kx126 : Ol p l e s m b below meth c Γ 431 [(0, va_rf p1), (1, va_rf (some (hpN σ))), (2, va_rf (some (hpN q5))), (3, va_rf (some (hpN σ7))), (4, va_rf (some (hpN σ9))), (5, .int v5_122), (6, .int q57), (8, .int x65)] [] x126 := by
                                      refine k_iload cx 6 dL_law_431 rfl ?_
                                      refine k_iconst cx 3 dL_law_433 (by decide) ?_
                                      obtain ⟨q141, g142, h⟩ := bind_ok h
                                      refine k_callS cx iv_L_15 (w_L_low g142) (As := [.int q57, .int 3]) rfl rfl ⟨Nat.le_of_ble_eq_true rfl, Nat.le_of_ble_eq_true rfl⟩ (by simp [cat_rf, cat_i, cat_j]) dL_law_434 ?_
                                      obtain ⟨x143, hxx143, h⟩ := bind_ok h
                                      have Kx143 : Ol p l e s m b below meth c Γ 458 [(0, va_rf p1), (1, va_rf (some (hpN σ))), (2, va_rf (some (hpN q5))), (3, va_rf (some (hpN σ7))), (4, va_rf (some (hpN σ9))), (5, .int v5_122)] [.int x143.1] x143.2 := by
                                        refine k_istore cx [(9, .int x143.1), (0, va_rf p1), (1, va_rf (some (hpN σ))), (2, va_rf (some (hpN q5))), (3, va_rf (some (hpN σ7))), (4, va_rf (some (hpN σ9))), (5, .int v5_122)] dL_law_458 (by decide) (by simp [cat_rf, cat_i, cat_j]) ?_
                                        refine k_goto cx 498 dL_law_460 (by decide) ?_
                                        refine k_sub [1, 2, 3, 4, 5, 6, 0] rfl ?_
                                        obtain rfl := Option.some.inj h
                                        exact Kx77
                                      have h := hxx143
                                      refine k_if_gt cx 453 dL_law_437 (by decide) (fun c144 => ?_) (fun c144 => ?_)
                                      · have h := ite_t h c144
                                        refine k_iconst cx 1 dL_law_453 (by decide) ?_
                                        refine k_goto cx 458 dL_law_454 (by decide) ?_
                                        refine k_sub [0, 1, 2, 3, 4, 5] rfl ?_
                                        obtain rfl := Option.some.inj h
                                        exact Kx143
                                      · have h := ite_f h c144
                                        refine k_aload_n cx 1 dL_law_440 rfl rfl ?_
                                        refine k_iload cx 7 dL_law_441 rfl ?_
                                        obtain ⟨a145, g146, h⟩ := bind_ok h
                                        obtain ⟨q147, g148, h⟩ := bind_ok h
                                        refine k_callV cx iv_L_78 (ci := 10) rfl (by decide) (w_X10_remove (dn_some g146).2 g148) g146 (As := [.int x65]) rfl rfl ⟨Nat.le_of_ble_eq_true rfl, Nat.le_of_ble_eq_true rfl⟩ (by simp [cat_rf, cat_i, cat_j]) dL_law_443 ?_
                                        refine k_aload_n cx 2 dL_law_446 rfl rfl ?_
                                        refine k_bipush cx 60 dL_law_447 (by decide) ?_
                                        obtain ⟨a149, g150, h⟩ := bind_ok h
                                        obtain ⟨j151, g152, h⟩ := bind_ok h
                                        refine k_iald cx g150 g152 dL_law_449 ?_
                                        refine k_icmp_ne cx 457 dL_law_450 (by decide) (fun c153 => ?_) (fun c153 => ?_)
                                        · have h := ite_t h c153
                                          refine k_iconst cx 0 dL_law_457 (by decide) ?_
                                          refine k_sub [0, 1, 2, 3, 4, 5] rfl ?_
                                          obtain rfl := Option.some.inj h
                                          exact Kx143
                                        · have h := ite_f h c153
                                          refine k_iconst cx 1 dL_law_453 (by decide) ?_
                                          refine k_goto cx 458 dL_law_454 (by decide) ?_
                                          refine k_sub [0, 1, 2, 3, 4, 5] rfl ?_
                                          obtain rfl := Option.some.inj h
                                          exact Kx143
                                    have KLx126 : ∀ (n : Nat) (v10_393 : Int32) (τ393 : St), LL_law_393 n p1 (some (hpN σ)) (some (hpN q5)) (some (hpN σ7)) (some (hpN σ9)) v5_122 q57 x65 v10_393 τ393 = some x126 → Ol p l e s m b below meth c Γ 393 [(0, va_rf p1), (1, va_rf (some (hpN σ))), (2, va_rf (some (hpN q5))), (3, va_rf (some (hpN σ7))), (4, va_rf (some (hpN σ9))), (5, .int v5_122), (6, .int q57), (8, .int x65), (10, .int v10_393)] [] τ393 := by
                                      intro n
                                      induction n with
                                      | zero => intro _ _ h; cases (show (none : Option _) = some x126 from h)
                                      | succ n ihx126 =>
                                        intro v10_393 τ393 h
                                        rw [LL_law_393] at h
                                        refine k_iload cx 8 dL_law_393 rfl ?_
                                        refine k_bipush cx 10 dL_law_395 (by decide) ?_
                                        refine k_aload_n cx 2 dL_law_397 rfl rfl ?_
                                        refine k_bipush cx 60 dL_law_398 (by decide) ?_
                                        obtain ⟨a127, g128, h⟩ := bind_ok h
                                        obtain ⟨j129, g130, h⟩ := bind_ok h
                                        refine k_iald cx g128 g130 dL_law_400 ?_
                                        refine k_imul cx dL_law_401 ?_
                                        refine k_icmp_ge cx 431 dL_law_402 (by decide) (fun c131 => ?_) (fun c131 => ?_)
                                        · have h := ite_t h c131
                                          refine k_sub [0, 1, 2, 3, 4, 5, 6, 7] rfl ?_
                                          obtain rfl := Option.some.inj h
                                          exact Kx126
                                        · have h := ite_f h c131
                                          refine k_iload cx 6 dL_law_405 rfl ?_
                                          refine k_iconst cx 3 dL_law_407 (by decide) ?_
                                          obtain ⟨q132, g133, h⟩ := bind_ok h
                                          refine k_callS cx iv_L_15 (w_L_low g133) (As := [.int q57, .int 3]) rfl rfl ⟨Nat.le_of_ble_eq_true rfl, Nat.le_of_ble_eq_true rfl⟩ (by simp [cat_rf, cat_i, cat_j]) dL_law_408 ?_
                                          refine k_if_ne cx 431 dL_law_411 (by decide) (fun c134 => ?_) (fun c134 => ?_)
                                          · have h := ite_t h c134
                                            refine k_sub [0, 1, 2, 3, 4, 5, 6, 7] rfl ?_
                                            obtain rfl := Option.some.inj h
                                            exact Kx126
                                          · have h := ite_f h c134
                                            refine k_aload_n cx 2 dL_law_414 rfl rfl ?_
                                            refine k_iload cx 8 dL_law_415 rfl ?_
                                            refine k_aload_n cx 2 dL_law_417 rfl rfl ?_
                                            refine k_iload cx 8 dL_law_418 rfl ?_
                                            refine k_bipush cx 10 dL_law_420 (by decide) ?_
                                            refine k_iadd cx dL_law_422 ?_
                                            obtain ⟨j135, g136, h⟩ := bind_ok h
                                            refine k_iald cx g128 g136 dL_law_423 ?_
                                            obtain ⟨a137, g138, h⟩ := bind_ok h
                                            obtain ⟨j139, g140, h⟩ := bind_ok h
                                            refine k_iast cx g138 g140 dL_law_424 ?_
                                            refine k_iinc cx 8 [(10, .int (v10_393 + 1)), (0, va_rf p1), (1, va_rf (some (hpN σ))), (2, va_rf (some (hpN q5))), (3, va_rf (some (hpN σ7))), (4, va_rf (some (hpN σ9))), (5, .int v5_122), (6, .int q57), (8, .int x65)] (v10_393 + 1) dL_law_425 rfl rfl (by decide) (by simp [cat_rf, cat_i, cat_j]) ?_
                                            refine k_goto cx 393 dL_law_428 (by decide) ?_
                                            refine k_sub [1, 2, 3, 4, 5, 6, 7, 8, 0] rfl ?_
                                            exact ihx126 _ _ h
                                    refine k_sub [1, 2, 3, 4, 5, 6, 7, 8, 0] rfl ?_
                                    exact KLx126 FU _ _ hxx126
                                  have h := hxx119
                                  refine k_if_ne cx 383 dL_law_376 (by decide) (fun c120 => ?_) (fun c120 => ?_)
                                  · have h := ite_t h c120
                                    refine k_iconst cx 0 dL_law_383 (by decide) ?_
                                    refine k_sub [0, 1, 2, 3, 4, 5, 6, 8] rfl ?_
                                    obtain rfl := Option.some.inj h
                                    exact Kx119
                                  · have h := ite_f h c120
                                    refine k_iconst cx 1 dL_law_379 (by decide) ?_
                                    refine k_goto cx 384 dL_law_380 (by decide) ?_
                                    refine k_sub [0, 1, 2, 3, 4, 5, 6, 8] rfl ?_
                                    obtain rfl := Option.some.inj h
                                    exact Kx119
                                | k + 5, ho => exact absurd ho (by simp)
                            have h := hxx73
                            refine k_if_ne cx 185 dL_law_177 (by decide) (fun c74 => ?_) (fun c74 => ?_)
                            · have h := ite_t h c74
                              refine k_iload cx 7 dL_law_185 rfl ?_
                              refine k_bipush cx 22 dL_law_187 (by decide) ?_
                              refine k_ishr cx dL_law_189 ?_
                              refine k_bipush cx 8 dL_law_190 (by decide) ?_
                              obtain ⟨q75, g76, h⟩ := bind_ok h
                              refine k_callS cx iv_L_15 (w_L_low g76) (As := [.int (q57 >>> (22 &&& 31)), .int 8]) rfl rfl ⟨Nat.le_of_ble_eq_true rfl, Nat.le_of_ble_eq_true rfl⟩ (by simp [cat_rf, cat_i, cat_j]) dL_law_192 ?_
                              refine k_sub [1, 2, 3, 4, 5, 6, 7, 8, 0] rfl ?_
                              obtain rfl := Option.some.inj h
                              exact Kx73
                            · have h := ite_f h c74
                              refine k_bipush cx 9 dL_law_180 (by decide) ?_
                              refine k_goto cx 195 dL_law_182 (by decide) ?_
                              refine k_sub [1, 2, 3, 4, 5, 6, 7, 8, 0] rfl ?_
                              obtain rfl := Option.some.inj h
                              exact Kx73
                          have h := hxx65
                          refine k_if_ne cx 162 dL_law_155 (by decide) (fun c66 => ?_) (fun c66 => ?_)
                          · have h := ite_t h c66
                            refine k_iload cx 0 dL_law_162 rfl ?_
                            refine k_aload_n cx 4 dL_law_164 rfl rfl ?_
                            refine k_bipush cx 60 dL_law_165 (by decide) ?_
                            obtain ⟨j67, g68, h⟩ := bind_ok h
                            refine k_iald cx g62 g68 dL_law_167 ?_
                            obtain ⟨q69, g70, h⟩ := bind_ok h
                            refine k_callS cx iv_L_15 (w_L_low g70) (As := [.int q59, .int (hpA τ122 a61 j67)]) rfl rfl ⟨Nat.le_of_ble_eq_true rfl, Nat.le_of_ble_eq_true rfl⟩ (by simp [cat_rf, cat_i, cat_j]) dL_law_168 ?_
                            refine k_sub [2, 3, 4, 5, 6, 7, 1, 0] rfl ?_
                            obtain rfl := Option.some.inj h
                            exact Kx65
                          · have h := ite_f h c66
                            refine k_iconst cx 0 dL_law_158 (by decide) ?_
                            refine k_goto cx 171 dL_law_159 (by decide) ?_
                            refine k_sub [2, 3, 4, 5, 6, 7, 1, 0] rfl ?_
                            obtain rfl := Option.some.inj h
                            exact Kx65
                    refine k_sub [5, 4, 3, 2, 1, 0] rfl ?_
                    exact KLx55 FU _ _ hxx55
                  · have h := ite_f h c53
                    refine k_iconst cx 0 dL_law_117 (by decide) ?_
                    have h := Option.some.inj h
                    exact k_lawret cx hr hlk hb (law_v h h1) dL_law_118

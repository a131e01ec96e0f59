section OKC
variable {p : Program} {l : Launch} {e : Env} {R : Room} {s : State} {m : MethodId} {args : Array Value} {below : List Frame} {meth : Method} {c : Code} {Q : State → Prop} {Γ : GE} {σ0 σ : St} {nL pc : Nat} {cc : ByteArray} {own : String} {L L' : List (Nat × Value)} {st : List Value}
/-- what a method's end must be: it answers rv, and the heap is what σ1 says -/
def Qr (Γ : GE) (rv : Option Value) (σ1 : St) : Array Value → State → Outcome → State → Prop := fun _ _ o t => o = .returned rv ∧ RepH Γ σ1 t.heap
abbrev rmO (fr lo : Nat) (σ : St) : Room := { frames := fr, cells := NX - hpC σ, slots := SX - hpS σ, locals := lo }
/-- a method's contract: from the arguments av and a heap as σ says it answers rv, and leaves the heap as σ1 says -/
def Ct (Γ : GE) (y : MethodName) (b : ByteArray) (mL : Nat) (ret : Option FieldType) (fr lo : Nat) (av : List Value) (σ : St) (rv : Option Value) (σ1 : St) : Prop :=
  ∀ l : Launch, Met l y (Cond.code y b mL ret :: TBL) (rmO fr lo σ) (va_Pc av (fun U => RepH Γ σ U.heap ∧ Glob Γ U)) (Qr Γ rv σ1) (NX - hpC σ) (SX - hpS σ) (fun q => gB Γ ≤ q)
theorem blindP {av : List Value} : FrameBlind (va_Pc av (fun U => RepH Γ σ U.heap ∧ Glob Γ U)) := fun _ U g mk h => ⟨h.1, h.2.1, Glob.warm (s := U) (U := U.calling g mk _) (State.WarmedH.refl U) h.2.2⟩
theorem ct_intro {y : MethodName} {b : ByteArray} {mL fr lo : Nat} {ret : Option FieldType} {av : List Value} {rv : Option Value} {σ1 : St} {L0 : List (Nat × Value)} (hy : plainName y.cls = true) (hown : y.cls = own) (hlen : (lg_sl av).length ≤ mL) (hargs : lv_args 0 av = L0)
    (body : ∀ (p : Program) (l : Launch) (e : Env) (s : State) (m : MethodId) (args : Array Value) (below : List Frame) (meth : Method) (c : Code), meth.sig.returnType = ret → meth.locks = false → meth.name = y.name → Cx p (rmO fr lo σ) s m args c Γ mL σ b own → Ok p l e (rmO fr lo σ) s m args below meth c Γ mL (MQ below (Qr Γ rv σ1) args s (NX - hpC σ) (SX - hpS σ) (fun q => gB Γ ≤ q)) 0 L0 [] σ) : Ct Γ y b mL ret fr lo av σ rv σ1 := by
  intro l
  refine Met.ofW (cc := b) (maxL := mL) (ret := ret) hy rfl ?_
  intro p e s m args below meth c s₁ B hml hv
  obtain ⟨rfl, hR, hG⟩ := hv
  have hts := atoms_spec (ws := Cond.code y b mL ret :: TBL) B.pre
  have hin : meth.name = y.name := (name_of_methodNamed B.named B.method).1
  have hown' : s.vm.findClass own = some m.cls := by rw [← hown]; exact findClass_of_methodNamed B.named
  have cx : Cx p (rmO fr lo σ) s m av.toArray c Γ mL σ b own := ⟨B.exec, B.bytes, hml, hown', fun w hw => hts w (List.mem_cons_of_mem _ hw), hG, hR, rfl, rfl⟩
  have hOk := body p l e s m av.toArray below meth c B.returns B.notSynchronized hin cx
  have hl := lv_entry av (n := mL) hlen
  rw [lg_entry_eq]
  rw [hargs] at hl
  exact W.widen (Nat.zero_le _) (Nat.zero_le _) (hOk s.heap [] _ hR (fun q h => by cases h) hl)
/-- a call's end, whatever the kind of call -/
theorem k_run (cx : Cx p R s m args c Γ nL σ0 cc own) {rv : Option Value} {σ1 : St} {st0 : List Value} {a : Array Value}
    (hr : ∀ (H : Heap) (locs : List Loc) (ls : Array Slot), RepH Γ σ H → lv_has ls nL L → hpC σ0 ≤ hpC σ → hpS σ0 ≤ hpS σ → va_Run p l e R s m args below meth c H locs (hpC σ - hpC σ0) (hpS σ - hpS σ0) (NX - hpC σ) (SX - hpS σ) (F0 m pc ls st0) st (Qr Γ rv σ1 a) (fun q => gB Γ ≤ q))
    (h : Ok p l e R s m args below meth c Γ nL Q (pc + 3) L (rv.toList ++ st) σ1) : Ok p l e R s m args below meth c Γ nL Q pc L st0 σ := by
  intro H locs ls hR hL hls T hT X
  obtain ⟨X1, m1, m2⟩ := st_tight cx.2.2.2.2.2.2.1 hR hT X
  obtain ⟨v, st₀, t, T', L2, h0, X', hL2, e1, e2, ⟨hv, hr2⟩, go⟩ := hr H locs ls hR hls m1 m2 T hT X1
  cases hv
  have hrc := cx.2.2.2.2.2.2.2
  have h8 := hR.2.2.2.2.2.2.2
  obtain ⟨t2, a1, b1⟩ := h T'.heap (locs ++ L2) ls (by rw [e1]; exact hr2) (fun q hq => by
    rcases List.mem_append.mp hq with h9 | h9
    · exact hL q h9
    · exact hL2 q h9) hls T' rfl (stand_widen X' (by omega) (by omega))
  exact ⟨t2, go t2 a1, b1⟩
/-- what a call of an instance method needs of the tables: link, method, selection, code -/
def IV (own : String) (idx : Nat) (C : String) (y : MethodName) (b : ByteArray) (mL : Nat) (ret : Option FieldType) (n : Nat) : Prop :=
  (Cond.methodLink own idx y ∈ TBL ∧ Cond.instanceMethod y ∈ TBL ∧ Cond.selects C y y ∈ TBL ∧ Cond.initialized C ∈ TBL ∧ Cond.code y b mL ret ∈ TBL) ∧ y.cls = C ∧ y.cls ≠ "java/lang/invoke/MethodHandle" ∧ y.cls ≠ "java/lang/invoke/VarHandle" ∧ (parseMethodDescriptor y.desc).map (fun d => d.parameters.length) = some n
def IS (own : String) (idx : Nat) (y : MethodName) (b : ByteArray) (mL : Nat) (ret : Option FieldType) (n : Nat) : Prop :=
  (Cond.methodLink own idx y ∈ TBL ∧ Cond.static y ∈ TBL ∧ Cond.initialized y.cls ∈ TBL ∧ Cond.code y b mL ret ∈ TBL) ∧ y.cls ≠ "java/lang/invoke/MethodHandle" ∧ y.cls ≠ "java/lang/invoke/VarHandle" ∧ (parseMethodDescriptor y.desc).map (fun d => d.parameters.length) = some n
/-- a static method of a nest mate that is private -/
def ISN (own : String) (idx : Nat) (y : MethodName) (b : ByteArray) (mL : Nat) (ret : Option FieldType) (n : Nat) : Prop :=
  (own, idx, y) ∈ NMl ∧ (Cond.static y ∈ TBL ∧ Cond.initialized y.cls ∈ TBL ∧ Cond.code y b mL ret ∈ TBL) ∧ y.cls ≠ "java/lang/invoke/MethodHandle" ∧ y.cls ≠ "java/lang/invoke/VarHandle" ∧ (parseMethodDescriptor y.desc).map (fun d => d.parameters.length) = some n
def II (own : String) (idx : Nat) (y : MethodName) (b : ByteArray) (mL : Nat) (n : Nat) : Prop :=
  (Cond.methodLink own idx y ∈ TBL ∧ Cond.instanceMethod y ∈ TBL ∧ Cond.initialized y.cls ∈ TBL ∧ Cond.code y b mL none ∈ TBL) ∧ y.name = "<init>" ∧ y.cls ≠ "java/lang/invoke/MethodHandle" ∧ y.cls ≠ "java/lang/invoke/VarHandle" ∧ (parseMethodDescriptor y.desc).map (fun d => d.parameters.length) = some n
def IIN (own : String) (idx : Nat) (y : MethodName) (b : ByteArray) (mL : Nat) (n : Nat) : Prop :=
  (own, idx, y) ∈ NMl ∧ (Cond.instanceMethod y ∈ TBL ∧ Cond.initialized y.cls ∈ TBL ∧ Cond.code y b mL none ∈ TBL) ∧ y.name = "<init>" ∧ y.cls ≠ "java/lang/invoke/MethodHandle" ∧ y.cls ≠ "java/lang/invoke/VarHandle" ∧ (parseMethodDescriptor y.desc).map (fun d => d.parameters.length) = some n
theorem gi_code {y : MethodName} {b : ByteArray} {mL : Nat} {ret : Option FieldType} (h : Cond.code y b mL ret ∈ TBL) : GoodIn TBL (Cond.code y b mL ret :: TBL) := tb_good (fun w hw => by
  rcases List.mem_cons.mp hw with rfl | h1
  · exact h
  · exact h1)
theorem rp_pre {av : List Value} {H : Heap} (cx : Cx p R s m args c Γ nL σ0 cc own) (hR : RepH Γ σ H) : ∀ U : State, U.heap = H → s.WarmedH U.vm → va_Pc av (fun U => RepH Γ σ U.heap ∧ Glob Γ U) av.toArray U := fun U hU hW => ⟨rfl, by rw [hU]; exact hR, Glob.warm hW cx.2.2.2.2.2.1⟩
theorem k_callV (cx : Cx p R s m args c Γ nL σ0 cc own) {idx ci a : Nat} {C : String} {T : u_T} {N : Nat} {y : MethodName} {b : ByteArray} {mL n fr lo : Nat} {ret : Option FieldType} {As st0 : List Value} {x : Option Nat} {rv : Option Value} {σ1 : St} (iv : IV own idx C y b mL ret n) (hc : vwCl[ci]? = some (C, T, N)) (hci : ci < 12) (ct : Ct Γ y b mL ret fr lo (va_rf (some a) :: As) σ rv σ1) (hx : dn σ ci x = some a) (hst : st0 = As.reverse ++ va_rf x :: st) (hn : As.length = n) (hfr : fr + 1 ≤ R.frames ∧ 8 + (mL + 11) + lo ≤ R.locals) (hw : (st.map fun v => v.category).sum ≤ 8) (hd : decode cc pc = .ok (.invokevirtual idx, 3)) (h : Ok p l e R s m args below meth c Γ nL Q (pc + 3) L (rv.toList ++ st) σ1) : Ok p l e R s m args below meth c Γ nL Q pc L st0 σ := by
  obtain ⟨rfl, hk⟩ := dn_some hx
  subst hst
  obtain ⟨⟨w1, w2, w3, w4, w5⟩, d1, d2, d3, d4⟩ := iv
  have hts := cx.2.2.2.2.1
  refine k_run (a := (va_rf (some a) :: As).toArray) cx (fun H locs ls hR hls m1 m2 => ?_) h
  have hcell := (rep_at hR (by omega : hpK σ a < 20)).2.2.1 (by omega)
  rw [hk] at hcell
  obtain ⟨cell, q1, q2, q3, -⟩ := hcell
  have hrc := cx.2.2.2.2.2.2.2
  have h8 := hR.2.2.2.2.2.2.2
  exact va_runV (As := As) (rest := st) ⟨cx.1, cx.2.1, cx.2.2.1, cx.2.2.2.1, hts⟩ (ct l) ⟨callB_of n hts (gi_code w5) rfl rfl rfl (by rw [d1]; exact hts _ w4) (hts _ w1) ⟨d2, d3, d4⟩ hfr, hts _ w2, hts _ w3⟩ ⟨blindP, ⟨cell, q1, by rw [q3]; rfl, by rw [q2]; exact (cx.2.2.2.2.2.1.1.1 ci _ hc).2.1⟩, rp_pre cx hR⟩ rfl hn hls.1 rfl (lv_room hw) hd ⟨by omega, by omega⟩
theorem k_callS (cx : Cx p R s m args c Γ nL σ0 cc own) {idx : Nat} {y : MethodName} {b : ByteArray} {mL n fr lo : Nat} {ret : Option FieldType} {As st0 : List Value} {rv : Option Value} {σ1 : St} (iv : IS own idx y b mL ret n) (ct : Ct Γ y b mL ret fr lo As σ rv σ1) (hst : st0 = As.reverse ++ st) (hn : As.length = n) (hfr : fr + 1 ≤ R.frames ∧ 8 + (mL + 11) + lo ≤ R.locals) (hw : (st.map fun v => v.category).sum ≤ 8) (hd : decode cc pc = .ok (.invokestatic idx, 3)) (h : Ok p l e R s m args below meth c Γ nL Q (pc + 3) L (rv.toList ++ st) σ1) : Ok p l e R s m args below meth c Γ nL Q pc L st0 σ := by
  subst hst
  obtain ⟨⟨w1, w2, w3, w4⟩, d2, d3, d4⟩ := iv
  have hts := cx.2.2.2.2.1
  refine k_run (a := As.toArray) cx (fun H locs ls hR hls m1 m2 => ?_) h
  have hrc := cx.2.2.2.2.2.2.2
  have h8 := hR.2.2.2.2.2.2.2
  exact va_runS (As := As) (rest := st) ⟨cx.1, cx.2.1, cx.2.2.1, cx.2.2.2.1, hts⟩ (ct l) ⟨callB_of n hts (gi_code w4) rfl rfl rfl (hts _ w3) (hts _ w1) ⟨d2, d3, d4⟩ hfr, hts _ w2⟩ ⟨blindP, rp_pre cx hR⟩ rfl hn hls.1 rfl (lv_room hw) hd ⟨by omega, by omega⟩
theorem k_callSN (cx : Cx p R s m args c Γ nL σ0 cc own) {idx : Nat} {y : MethodName} {b : ByteArray} {mL n fr lo : Nat} {ret : Option FieldType} {As st0 : List Value} {rv : Option Value} {σ1 : St} (iv : ISN own idx y b mL ret n) (ct : Ct Γ y b mL ret fr lo As σ rv σ1) (hst : st0 = As.reverse ++ st) (hn : As.length = n) (hfr : fr + 1 ≤ R.frames ∧ 8 + (mL + 11) + lo ≤ R.locals) (hw : (st.map fun v => v.category).sum ≤ 8) (hd : decode cc pc = .ok (.invokestatic idx, 3)) (h : Ok p l e R s m args below meth c Γ nL Q (pc + 3) L (rv.toList ++ st) σ1) : Ok p l e R s m args below meth c Γ nL Q pc L st0 σ := by
  subst hst
  obtain ⟨hN, ⟨w2, w3, w4⟩, d2, d3, d4⟩ := iv
  have hts := cx.2.2.2.2.1
  refine k_run (a := As.toArray) cx (fun H locs ls hR hls m1 m2 => ?_) h
  have hrc := cx.2.2.2.2.2.2.2
  have h8 := hR.2.2.2.2.2.2.2
  exact va_runSN (As := As) (rest := st) (host := RX10) ⟨cx.1, cx.2.1, cx.2.2.1, cx.2.2.2.1, hts⟩ (ct l) ⟨va_cnB n hts (gi_code w4) rfl rfl rfl (cx.2.2.2.2.2.1.2.1 _ hN) (hts _ w3) ⟨d2, d3, d4⟩ hfr, hts _ w2, trivial⟩ ⟨blindP, rp_pre cx hR⟩ rfl hn hls.1 rfl (lv_room hw) hd ⟨by omega, by omega⟩
theorem k_callI (cx : Cx p R s m args c Γ nL σ0 cc own) {idx a : Nat} {y : MethodName} {b : ByteArray} {mL n fr lo : Nat} {As st0 : List Value} {x : Option Nat} {σ1 : St} (iv : II own idx y b mL n) (ct : Ct Γ y b mL none fr lo (va_rf (some a) :: As) σ none σ1) (hx : x = some a) (hst : st0 = As.reverse ++ va_rf x :: st) (hn : As.length = n) (hfr : fr + 1 ≤ R.frames ∧ 8 + (mL + 11) + lo ≤ R.locals) (hw : (st.map fun v => v.category).sum ≤ 8) (hd : decode cc pc = .ok (.invokespecial idx, 3)) (h : Ok p l e R s m args below meth c Γ nL Q (pc + 3) L st σ1) : Ok p l e R s m args below meth c Γ nL Q pc L st0 σ := by
  subst hx
  subst hst
  obtain ⟨⟨w1, w2, w3, w4⟩, d1, d2, d3, d4⟩ := iv
  have hts := cx.2.2.2.2.1
  refine k_run (a := (va_rf (some a) :: As).toArray) (rv := none) cx (fun H locs ls hR hls m1 m2 => ?_) h
  have hrc := cx.2.2.2.2.2.2.2
  have h8 := hR.2.2.2.2.2.2.2
  exact va_runI (As := As) (rest := st) ⟨cx.1, cx.2.1, cx.2.2.1, cx.2.2.2.1, hts⟩ (ct l) ⟨callB_of n hts (gi_code w4) rfl rfl rfl (hts _ w3) (hts _ w1) ⟨d2, d3, d4⟩ hfr, d1, hts _ w2⟩ ⟨blindP, rp_pre cx hR⟩ rfl hn hls.1 rfl (lv_room hw) hd ⟨by omega, by omega⟩
theorem k_callIN (cx : Cx p R s m args c Γ nL σ0 cc own) {idx a : Nat} {y : MethodName} {b : ByteArray} {mL n fr lo : Nat} {As st0 : List Value} {x : Option Nat} {σ1 : St} (iv : IIN own idx y b mL n) (ct : Ct Γ y b mL none fr lo (va_rf (some a) :: As) σ none σ1) (hx : x = some a) (hst : st0 = As.reverse ++ va_rf x :: st) (hn : As.length = n) (hfr : fr + 1 ≤ R.frames ∧ 8 + (mL + 11) + lo ≤ R.locals) (hw : (st.map fun v => v.category).sum ≤ 8) (hd : decode cc pc = .ok (.invokespecial idx, 3)) (h : Ok p l e R s m args below meth c Γ nL Q (pc + 3) L st σ1) : Ok p l e R s m args below meth c Γ nL Q pc L st0 σ := by
  subst hx
  subst hst
  obtain ⟨hN, ⟨w2, w3, w4⟩, d1, d2, d3, d4⟩ := iv
  have hts := cx.2.2.2.2.1
  refine k_run (a := (va_rf (some a) :: As).toArray) (rv := none) cx (fun H locs ls hR hls m1 m2 => ?_) h
  have hrc := cx.2.2.2.2.2.2.2
  have h8 := hR.2.2.2.2.2.2.2
  exact va_runIN (As := As) (rest := st) (host := RX10) ⟨cx.1, cx.2.1, cx.2.2.1, cx.2.2.2.1, hts⟩ (ct l) ⟨va_cnB n hts (gi_code w4) rfl rfl rfl (cx.2.2.2.2.2.1.2.1 _ hN) (hts _ w3) ⟨d2, d3, d4⟩ hfr, d1, hts _ w2⟩ ⟨blindP, rp_pre cx hR⟩ rfl hn hls.1 rfl (lv_room hw) hd ⟨by omega, by omega⟩
theorem k_objInit (cx : Cx p R s m args c Γ nL σ0 cc own) {idx : Nat} {a : Nat} (hl : Cond.methodLink own idx Lib.objectInit ∈ TBL) (hi : Cond.instanceMethod Lib.objectInit ∈ TBL) (hc : Cond.code Lib.objectInit ⟨#[0xb1]⟩ 1 none ∈ TBL) (hfr : 1 ≤ R.frames ∧ 20 ≤ R.locals) (hw : (st.map fun v => v.category).sum ≤ 8) (hd : decode cc pc = .ok (.invokespecial idx, 3)) (h : Ok p l e R s m args below meth c Γ nL Q (pc + 3) L st σ) : Ok p l e R s m args below meth c Γ nL Q pc L (va_rf (some a) :: st) σ := by
  intro H locs ls hR hL hls
  have hts := cx.2.2.2.2.1
  have hrm := lv_room (m := m) (pc := pc) (ls := ls) (rest := va_rf (some a) :: st) hw
  exact W.objInit cx.1 cx.2.1 cx.2.2.2.1 (hts _ hl) (hts _ hi) (hts _ hc) (g := F0 m pc ls (va_rf (some a) :: st)) rfl (by rw [cx.2.2.1]; exact hls.1) rfl hd hfr.1 (by omega) (h H locs ls hR hL hls)
-- returns
theorem k_iret (cx : Cx p R s m args c Γ nL σ0 cc own) (hr : meth.sig.returnType = some .int) (hlk : meth.locks = false) {v : Int32} {rv : Option Value} {σ1 : St} (hv : rv = some (.int v)) (hσ : σ1 = σ) (hd : decode cc pc = .ok (.ireturn, 1)) : Ok p l e R s m args below meth c Γ nL (MQ below (Qr Γ rv σ1) args s R.cells R.slots (fun q => gB Γ ≤ q)) pc L [.int v] σ := by
  subst hv; subst hσ
  exact fun H locs ls hR hL hls => W.iret cx.1 cx.2.1 hr (fun t ht _ => ⟨rfl, by rw [ht]; exact hR⟩) hL hd hlk
theorem k_zret (cx : Cx p R s m args c Γ nL σ0 cc own) (hr : meth.sig.returnType = some .boolean) (hlk : meth.locks = false) {v w : Int32} {rv : Option Value} {σ1 : St} (hz : gz v = some w) (hv : rv = some (.int v)) (hσ : σ1 = σ) (hd : decode cc pc = .ok (.ireturn, 1)) : Ok p l e R s m args below meth c Γ nL (MQ below (Qr Γ rv σ1) args s R.cells R.slots (fun q => gB Γ ≤ q)) pc L [.int v] σ := by
  subst hv; subst hσ
  exact fun H locs ls hR hL hls => W.zret cx.1 cx.2.1 hr (gz_narrow hz).1 (fun t ht _ => ⟨rfl, by rw [ht]; exact hR⟩) hL hd hlk
theorem k_lret (cx : Cx p R s m args c Γ nL σ0 cc own) (hr : meth.sig.returnType = some .long) (hlk : meth.locks = false) {v : Int64} {rv : Option Value} {σ1 : St} (hv : rv = some (.long v)) (hσ : σ1 = σ) (hd : decode cc pc = .ok (.lreturn, 1)) : Ok p l e R s m args below meth c Γ nL (MQ below (Qr Γ rv σ1) args s R.cells R.slots (fun q => gB Γ ≤ q)) pc L [.long v] σ := by
  subst hv; subst hσ
  exact fun H locs ls hR hL hls => W.lret cx.1 cx.2.1 hr (fun t ht _ => ⟨rfl, by rw [ht]; exact hR⟩) hL hd hlk
theorem k_vret (cx : Cx p R s m args c Γ nL σ0 cc own) (hr : meth.sig.returnType = none) (hlk : meth.locks = false) {rv : Option Value} {σ1 : St} (hv : rv = none) (hσ : σ1 = σ) (hd : decode cc pc = .ok (.return_, 1)) : Ok p l e R s m args below meth c Γ nL (MQ below (Qr Γ rv σ1) args s R.cells R.slots (fun q => gB Γ ≤ q)) pc L [] σ := by
  subst hv; subst hσ
  exact fun H locs ls hR hL hls => W.vret cx.1 cx.2.1 hr (fun t ht _ => ⟨rfl, by rw [ht]; exact hR⟩) hL hd hlk
theorem k_aret (cx : Cx p R s m args c Γ nL σ0 cc own) {nm : String} (hr : meth.sig.returnType = some (.object nm)) (hlk : meth.locks = false) {x : Option Nat} {rv : Option Value} {σ1 : St} (hv : rv = some (va_rf x)) (hσ : σ1 = σ) (hd : decode cc pc = .ok (.areturn, 1)) : Ok p l e R s m args below meth c Γ nL (MQ below (Qr Γ rv σ1) args s R.cells R.slots (fun q => gB Γ ≤ q)) pc L [va_rf x] σ := by
  subst hv; subst hσ
  exact fun H locs ls hR hL hls => W.aret cx.1 cx.2.1 hr (Or.inl ⟨nm, rfl⟩) (by cases x; exact Or.inl rfl; exact Or.inr ⟨_, rfl⟩) (fun t ht _ => ⟨rfl, by rw [ht]; exact hR⟩) hL hd hlk
-- static fields
theorem k_gets (cx : Cx p R s m args c Γ nL σ0 cc own) {idx i : Nat} {nm : String} (hn : stNm[i]? = some nm) (hl : Cond.fieldLink own idx RX10 nm "[I" ∈ TBL) (hd : decode cc pc = .ok (.getstatic idx, 3)) (h : Ok p l e R s m args below meth c Γ nL Q (pc + 3) L (va_rf (some (hpG σ i)) :: st) σ) : Ok p l e R s m args below meth c Γ nL Q pc L st σ := by
  intro H locs ls hR hL hls
  obtain ⟨cf, kf, fi, f, a, cell, h1, h2, h3, h4, h5, h6, h7, h8⟩ := cx.2.2.2.2.2.1.2.2.2.2.1 i nm hn
  refine W.gets cx.1 cx.2.1 cx.2.2.2.1 (cx.2.2.2.2.1 _ hl) h1 h2 h3 h4 (v := va_rf (some (hpG σ i))) (by rw [hR.2.2.1 a (Nat.not_le.mp h8)]; exact h5) (fun e => by rw [e] at h6; cases h6) (by rw [hR.2.2.2.2.2.2.1 i]; exact h7) rfl hd (h H locs ls hR hL hls)
theorem k_getsN (cx : Cx p R s m args c Γ nL σ0 cc own) (ho : own = RX5) (hd : decode cc pc = .ok (.getstatic 25, 3)) (h : Ok p l e R s m args below meth c Γ nL Q (pc + 3) L (va_rf (some (hpG σ 0)) :: st) σ) : Ok p l e R s m args below meth c Γ nL Q pc L st σ := by
  subst ho
  intro H locs ls hR hL hls
  obtain ⟨cf, kf, fi, f, a, cell, h1, h2, h3, h4, h5, h6, h7, h8⟩ := cx.2.2.2.2.2.1.2.2.2.2.1 0 "AT_FIRST" rfl
  exact va_WgetsN cx.1 cx.2.1 cx.2.2.2.1 (va_Nw.use rfl cx.2.2.2.2.2.1.2.2.1) h1 h2 h3 h4 (v := va_rf (some (hpG σ 0))) (by rw [hR.2.2.1 a (Nat.not_le.mp h8)]; exact h5) (fun e => by rw [e] at h6; cases h6) (by rw [hR.2.2.2.2.2.2.1 0]; exact h7) rfl hd (h H locs ls hR hL hls)
-- Math
def jmax (x y : Int32) : Int32 := if x < y then y else x
def jmin (x y : Int32) : Int32 := if y < x then y else x
def jabs (x : Int32) : Int32 := if 0 ≤ x then x else 0 - x
def MW (own : String) (idx : Nat) (y : MethodName) (b : ByteArray) (mL : Nat) : Prop := Cond.methodLink own idx y ∈ TBL ∧ Cond.static y ∈ TBL ∧ Cond.initialized "java/lang/Math" ∈ TBL ∧ Cond.code y b mL (some .int) ∈ TBL
theorem k_max (cx : Cx p R s m args c Γ nL σ0 cc own) {idx : Nat} {x y : Int32} (hw : MW own idx Lib.Math.max.name Lib.Math.max.code 2) (hfr : 1 ≤ R.frames ∧ 21 ≤ R.locals) (hs : (st.map fun v => v.category).sum ≤ 8) (hd : decode cc pc = .ok (.invokestatic idx, 3)) (h : Ok p l e R s m args below meth c Γ nL Q (pc + 3) L (.int (jmax x y) :: st) σ) : Ok p l e R s m args below meth c Γ nL Q pc L (.int y :: .int x :: st) σ := by
  intro H locs ls hR hL hls
  have hts := cx.2.2.2.2.1
  exact va_mmax cx.1 cx.2.1 (by rw [cx.2.2.1]; exact hls.1.symm) cx.2.2.2.1 (hts _ hw.1) (hts _ hw.2.1) (hts _ hw.2.2.1) (hts _ hw.2.2.2) hfr.1 (by omega) (Nat.le_refl _) (Nat.le_refl _) hd (h H locs ls hR hL hls)
theorem k_min (cx : Cx p R s m args c Γ nL σ0 cc own) {idx : Nat} {x y : Int32} (hw : MW own idx Lib.Math.min.name Lib.Math.min.code 2) (hfr : 1 ≤ R.frames ∧ 21 ≤ R.locals) (hs : (st.map fun v => v.category).sum ≤ 8) (hd : decode cc pc = .ok (.invokestatic idx, 3)) (h : Ok p l e R s m args below meth c Γ nL Q (pc + 3) L (.int (jmin x y) :: st) σ) : Ok p l e R s m args below meth c Γ nL Q pc L (.int y :: .int x :: st) σ := by
  intro H locs ls hR hL hls
  have hts := cx.2.2.2.2.1
  exact va_mmin cx.1 cx.2.1 (by rw [cx.2.2.1]; exact hls.1.symm) cx.2.2.2.1 (hts _ hw.1) (hts _ hw.2.1) (hts _ hw.2.2.1) (hts _ hw.2.2.2) hfr.1 (by omega) (Nat.le_refl _) (Nat.le_refl _) hd (h H locs ls hR hL hls)
theorem k_abs (cx : Cx p R s m args c Γ nL σ0 cc own) {idx : Nat} {x : Int32} (hw : MW own idx Lib.Math.abs.name Lib.Math.abs.code 1) (hfr : 1 ≤ R.frames ∧ 21 ≤ R.locals) (hs : (st.map fun v => v.category).sum ≤ 8) (hd : decode cc pc = .ok (.invokestatic idx, 3)) (h : Ok p l e R s m args below meth c Γ nL Q (pc + 3) L (.int (jabs x) :: st) σ) : Ok p l e R s m args below meth c Γ nL Q pc L (.int x :: st) σ := by
  intro H locs ls hR hL hls
  have hts := cx.2.2.2.2.1
  exact va_mabs cx.1 cx.2.1 (by rw [cx.2.2.1]; exact hls.1.symm) cx.2.2.2.1 (hts _ hw.1) (hts _ hw.2.1) (hts _ hw.2.2.1) (hts _ hw.2.2.2) hfr.1 (by omega) (Nat.le_refl _) (Nat.le_refl _) hd (h H locs ls hR hL hls)
-- strings
theorem ldcSW {T : State} {locs : List Loc} {cells slots : Nat} (X : Stand p l e R s m args below meth c T locs cells slots) (hexec : p.tables.exec = Jvm.exec) {text : String} {index : Nat} {a : Addr} (hown : s.vm.findClass own = some m.cls)
    (hconst : (Cond.stringRef own index text).before args s = true) (hev : (Term.string own index).eval args s none [] s = some (.ref a)) {g : JFrame} (hg : g.method = m) (hdg : decode c.code g.pc = .ok (.ldc_w index, 3)) :
    ∀ target, Steps p.tables e below (T.setTop { g with pc := g.pc + 3, stack := .ref a :: g.stack }) target → Steps p.tables e below (T.setTop g) target := by
  obtain ⟨k, cf, i, a', hk, hcf, hcp, -, hr, hev'⟩ := Cond.stringRef_spec hown hconst
  cases hev.symm.trans hev'
  obtain ⟨k', hk', he⟩ := X.warmed.alike.2.2 _ _ hk
  have hr' : k'.resolved[index]? = some (some (.string a)) := by
    rcases X.warmed.entry hk hk' index with h | ⟨h, -⟩
    · rw [h]; exact hr
    · rw [hr] at h; cases h
  intro target hrest
  subst hg
  jvm_step X.here [hexec, hdg, ldc_w.wp_string (e := e) (s := T) (f := g) X.here.top hk' (by rw [he]; exact hcf) hcp hr']
  exact hrest
theorem k_ldcS (cx : Cx p R s m args c Γ nL σ0 cc own) (ho : own = RX10) (i : Nat) {idx : Nat} {tx : String} (ht : strTx[i]? = some tx) (hi : idx = 305 + 2 * i) (hd : decode cc pc = .ok (.ldc_w idx, 3)) (h : Ok p l e R s m args below meth c Γ nL Q (pc + 3) L (va_rf (some (gK Γ i)) :: st) σ) : Ok p l e R s m args below meth c Γ nL Q pc L st σ := by
  subst ho
  subst hi
  intro H locs ls hR hL hls T hT X
  obtain ⟨t, a1, b1⟩ := h H locs ls hR hL hls T hT X
  have hZ := cx.2.2.2.2.2.1.2.2.2.2.2.2.1.2 i tx ht
  exact ⟨t, ldcSW X cx.1 cx.2.2.2.1 (text := tx) hZ.1 hZ.2 (g := F0 m pc ls st) rfl (by rw [cx.2.1]; exact hd) t a1, b1⟩
end OKC

section OKM
variable {p : Program} {l : Launch} {e : Env} {R : Room} {s : State} {m : MethodId} {args : Array Value} {below : List Frame} {meth : Method} {c : Code} {Q : State → Prop} {Γ : GE} {σ0 σ : St} {nL pc : Nat} {cc : ByteArray} {own : String} {L L' : List (Nat × Value)} {st : List Value}
theorem k_iadd (cx : Cx p R s m args c Γ nL σ0 cc own) {x y : Int32} (hd : decode cc pc = .ok (.iadd, 1)) (h : Ok p l e R s m args below meth c Γ nL Q (pc + 1) L (.int (x + y) :: st) σ) : Ok p l e R s m args below meth c Γ nL Q pc L (.int y :: .int x :: st) σ :=
  fun H locs ls hR hL hls => lv_iadd cx.1 cx.2.1 hd (h H locs ls hR hL hls)
theorem k_isub (cx : Cx p R s m args c Γ nL σ0 cc own) {x y : Int32} (hd : decode cc pc = .ok (.isub, 1)) (h : Ok p l e R s m args below meth c Γ nL Q (pc + 1) L (.int (x - y) :: st) σ) : Ok p l e R s m args below meth c Γ nL Q pc L (.int y :: .int x :: st) σ :=
  fun H locs ls hR hL hls => lv_isub cx.1 cx.2.1 hd (h H locs ls hR hL hls)
theorem k_imul (cx : Cx p R s m args c Γ nL σ0 cc own) {x y : Int32} (hd : decode cc pc = .ok (.imul, 1)) (h : Ok p l e R s m args below meth c Γ nL Q (pc + 1) L (.int (x * y) :: st) σ) : Ok p l e R s m args below meth c Γ nL Q pc L (.int y :: .int x :: st) σ :=
  fun H locs ls hR hL hls => lv_imul cx.1 cx.2.1 hd (h H locs ls hR hL hls)
theorem k_iand (cx : Cx p R s m args c Γ nL σ0 cc own) {x y : Int32} (hd : decode cc pc = .ok (.iand, 1)) (h : Ok p l e R s m args below meth c Γ nL Q (pc + 1) L (.int (x &&& y) :: st) σ) : Ok p l e R s m args below meth c Γ nL Q pc L (.int y :: .int x :: st) σ :=
  fun H locs ls hR hL hls => lv_iand cx.1 cx.2.1 hd (h H locs ls hR hL hls)
theorem k_ior (cx : Cx p R s m args c Γ nL σ0 cc own) {x y : Int32} (hd : decode cc pc = .ok (.ior, 1)) (h : Ok p l e R s m args below meth c Γ nL Q (pc + 1) L (.int (x ||| y) :: st) σ) : Ok p l e R s m args below meth c Γ nL Q pc L (.int y :: .int x :: st) σ :=
  fun H locs ls hR hL hls => lv_ior cx.1 cx.2.1 hd (h H locs ls hR hL hls)
theorem k_idiv (cx : Cx p R s m args c Γ nL σ0 cc own) {x y : Int32} (hd : decode cc pc = .ok (.idiv, 1)) {w : Int32} (hne : nz y = some w) (h : Ok p l e R s m args below meth c Γ nL Q (pc + 1) L (.int (x / y) :: st) σ) : Ok p l e R s m args below meth c Γ nL Q pc L (.int y :: .int x :: st) σ :=
  fun H locs ls hR hL hls => lv_idiv cx.1 cx.2.1 hd (nz_some hne).2 (h H locs ls hR hL hls)
theorem k_irem (cx : Cx p R s m args c Γ nL σ0 cc own) {x y : Int32} (hd : decode cc pc = .ok (.irem, 1)) {w : Int32} (hne : nz y = some w) (h : Ok p l e R s m args below meth c Γ nL Q (pc + 1) L (.int (x - x / y * y) :: st) σ) : Ok p l e R s m args below meth c Γ nL Q pc L (.int y :: .int x :: st) σ :=
  fun H locs ls hR hL hls => lv_irem cx.1 cx.2.1 hd (nz_some hne).2 (h H locs ls hR hL hls)
theorem k_ishl (cx : Cx p R s m args c Γ nL σ0 cc own) {x y : Int32} (hd : decode cc pc = .ok (.ishl, 1)) (h : Ok p l e R s m args below meth c Γ nL Q (pc + 1) L (.int (x <<< (y &&& 31)) :: st) σ) : Ok p l e R s m args below meth c Γ nL Q pc L (.int y :: .int x :: st) σ :=
  fun H locs ls hR hL hls => lv_ishl cx.1 cx.2.1 hd (h H locs ls hR hL hls)
theorem k_ishr (cx : Cx p R s m args c Γ nL σ0 cc own) {x y : Int32} (hd : decode cc pc = .ok (.ishr, 1)) (h : Ok p l e R s m args below meth c Γ nL Q (pc + 1) L (.int (x >>> (y &&& 31)) :: st) σ) : Ok p l e R s m args below meth c Γ nL Q pc L (.int y :: .int x :: st) σ :=
  fun H locs ls hR hL hls => lv_ishr cx.1 cx.2.1 hd (h H locs ls hR hL hls)
theorem k_ldcI (cx : Cx p R s m args c Γ nL σ0 cc own) {idx : Nat} (v : Int32) (hw : Cond.constant own idx v ∈ TBL) (hd : decode cc pc = .ok (.ldc idx, 2)) (h : Ok p l e R s m args below meth c Γ nL Q (pc + 2) L (.int v :: st) σ) : Ok p l e R s m args below meth c Γ nL Q pc L st σ :=
  fun H locs ls hR hL hls => lv_ldc cx.1 cx.2.1 cx.2.2.2.1 (cx.2.2.2.2.1 _ hw) hd (h H locs ls hR hL hls)
theorem k_ineg (cx : Cx p R s m args c Γ nL σ0 cc own) {x : Int32} (hd : decode cc pc = .ok (.ineg, 1)) (h : Ok p l e R s m args below meth c Γ nL Q (pc + 1) L (.int (-x) :: st) σ) : Ok p l e R s m args below meth c Γ nL Q pc L (.int x :: st) σ :=
  fun H locs ls hR hL hls => lv_ineg cx.1 cx.2.1 hd (h H locs ls hR hL hls)
theorem k_i2b (cx : Cx p R s m args c Γ nL σ0 cc own) {x : Int32} (hd : decode cc pc = .ok (.i2b, 1)) (h : Ok p l e R s m args below meth c Γ nL Q (pc + 1) L (.int x.toInt8.toInt32 :: st) σ) : Ok p l e R s m args below meth c Γ nL Q pc L (.int x :: st) σ :=
  fun H locs ls hR hL hls => lv_i2b cx.1 cx.2.1 hd rfl (h H locs ls hR hL hls)
theorem k_i2l (cx : Cx p R s m args c Γ nL σ0 cc own) {x : Int32} (hd : decode cc pc = .ok (.i2l, 1)) (h : Ok p l e R s m args below meth c Γ nL Q (pc + 1) L (.long x.toInt64 :: st) σ) : Ok p l e R s m args below meth c Γ nL Q pc L (.int x :: st) σ :=
  fun H locs ls hR hL hls => lv_i2l cx.1 cx.2.1 hd rfl (h H locs ls hR hL hls)
theorem k_l2i (cx : Cx p R s m args c Γ nL σ0 cc own) {x : Int64} (hd : decode cc pc = .ok (.l2i, 1)) (h : Ok p l e R s m args below meth c Γ nL Q (pc + 1) L (.int x.toInt32 :: st) σ) : Ok p l e R s m args below meth c Γ nL Q pc L (.long x :: st) σ :=
  fun H locs ls hR hL hls => lv_l2i cx.1 cx.2.1 hd rfl (h H locs ls hR hL hls)
theorem k_lmul (cx : Cx p R s m args c Γ nL σ0 cc own) {x y : Int64} (hd : decode cc pc = .ok (.lmul, 1)) (h : Ok p l e R s m args below meth c Γ nL Q (pc + 1) L (.long (x * y) :: st) σ) : Ok p l e R s m args below meth c Γ nL Q pc L (.long y :: .long x :: st) σ :=
  fun H locs ls hR hL hls => lv_lmul cx.1 cx.2.1 hd (h H locs ls hR hL hls)
theorem k_ladd (cx : Cx p R s m args c Γ nL σ0 cc own) {x y : Int64} (hd : decode cc pc = .ok (.ladd, 1)) (h : Ok p l e R s m args below meth c Γ nL Q (pc + 1) L (.long (x + y) :: st) σ) : Ok p l e R s m args below meth c Γ nL Q pc L (.long y :: .long x :: st) σ :=
  fun H locs ls hR hL hls => lv_ladd cx.1 cx.2.1 hd (h H locs ls hR hL hls)
theorem k_land (cx : Cx p R s m args c Γ nL σ0 cc own) {x y : Int64} (hd : decode cc pc = .ok (.land, 1)) (h : Ok p l e R s m args below meth c Γ nL Q (pc + 1) L (.long (x &&& y) :: st) σ) : Ok p l e R s m args below meth c Γ nL Q pc L (.long y :: .long x :: st) σ :=
  fun H locs ls hR hL hls => lv_land cx.1 cx.2.1 hd (h H locs ls hR hL hls)
theorem k_lshr (cx : Cx p R s m args c Γ nL σ0 cc own) {x : Int64} {y : Int32} (hd : decode cc pc = .ok (.lshr, 1)) (h : Ok p l e R s m args below meth c Γ nL Q (pc + 1) L (.long (x >>> (y.toInt64 &&& 63)) :: st) σ) : Ok p l e R s m args below meth c Γ nL Q pc L (.int y :: .long x :: st) σ :=
  fun H locs ls hR hL hls => lv_lshr cx.1 cx.2.1 hd rfl (h H locs ls hR hL hls)
theorem k_lcmp (cx : Cx p R s m args c Γ nL σ0 cc own) {x y : Int64} (hd : decode cc pc = .ok (.lcmp, 1)) (h : Ok p l e R s m args below meth c Γ nL Q (pc + 1) L (.int (lg_cmp x y) :: st) σ) : Ok p l e R s m args below meth c Γ nL Q pc L (.long y :: .long x :: st) σ :=
  fun H locs ls hR hL hls => W.lcmp cx.1 cx.2.1 hd (h H locs ls hR hL hls)
theorem k_icmp_eq (cx : Cx p R s m args c Γ nL σ0 cc own) {x y : Int32} {off : Int} (tgt : Nat) (hd : decode cc pc = .ok (.if_icmp .eq off, 3)) (ht : (pc : Int) + off = (tgt : Int)) (h1 : x = y → Ok p l e R s m args below meth c Γ nL Q tgt L st σ) (h2 : ¬ (x = y) → Ok p l e R s m args below meth c Γ nL Q (pc + 3) L st σ) : Ok p l e R s m args below meth c Γ nL Q pc L (.int y :: .int x :: st) σ :=
  fun H locs ls hR hL hls => lv_icmp_eq cx.1 cx.2.1 hd ht (fun q => h1 (by first | exact q | simpa using q) H locs ls hR hL hls) (fun q => h2 (by first | exact q | simpa using q) H locs ls hR hL hls)
theorem k_if_eq (cx : Cx p R s m args c Γ nL σ0 cc own) {x : Int32} {off : Int} (tgt : Nat) (hd : decode cc pc = .ok (.ifCond .eq off, 3)) (ht : (pc : Int) + off = (tgt : Int)) (h1 : x = 0 → Ok p l e R s m args below meth c Γ nL Q tgt L st σ) (h2 : ¬ (x = 0) → Ok p l e R s m args below meth c Γ nL Q (pc + 3) L st σ) : Ok p l e R s m args below meth c Γ nL Q pc L (.int x :: st) σ :=
  fun H locs ls hR hL hls => lv_if_eq cx.1 cx.2.1 hd ht (fun q => h1 (by first | exact q | simpa using q) H locs ls hR hL hls) (fun q => h2 (by first | exact q | simpa using q) H locs ls hR hL hls)
theorem k_icmp_ne (cx : Cx p R s m args c Γ nL σ0 cc own) {x y : Int32} {off : Int} (tgt : Nat) (hd : decode cc pc = .ok (.if_icmp .ne off, 3)) (ht : (pc : Int) + off = (tgt : Int)) (h1 : ¬ x = y → Ok p l e R s m args below meth c Γ nL Q tgt L st σ) (h2 : ¬ (¬ x = y) → Ok p l e R s m args below meth c Γ nL Q (pc + 3) L st σ) : Ok p l e R s m args below meth c Γ nL Q pc L (.int y :: .int x :: st) σ :=
  fun H locs ls hR hL hls => lv_icmp_ne cx.1 cx.2.1 hd ht (fun q => h1 (by first | exact q | simpa using q) H locs ls hR hL hls) (fun q => h2 (by first | exact q | simpa using q) H locs ls hR hL hls)
theorem k_if_ne (cx : Cx p R s m args c Γ nL σ0 cc own) {x : Int32} {off : Int} (tgt : Nat) (hd : decode cc pc = .ok (.ifCond .ne off, 3)) (ht : (pc : Int) + off = (tgt : Int)) (h1 : ¬ x = 0 → Ok p l e R s m args below meth c Γ nL Q tgt L st σ) (h2 : ¬ (¬ x = 0) → Ok p l e R s m args below meth c Γ nL Q (pc + 3) L st σ) : Ok p l e R s m args below meth c Γ nL Q pc L (.int x :: st) σ :=
  fun H locs ls hR hL hls => lv_if_ne cx.1 cx.2.1 hd ht (fun q => h1 (by first | exact q | simpa using q) H locs ls hR hL hls) (fun q => h2 (by first | exact q | simpa using q) H locs ls hR hL hls)
theorem k_icmp_lt (cx : Cx p R s m args c Γ nL σ0 cc own) {x y : Int32} {off : Int} (tgt : Nat) (hd : decode cc pc = .ok (.if_icmp .lt off, 3)) (ht : (pc : Int) + off = (tgt : Int)) (h1 : x < y → Ok p l e R s m args below meth c Γ nL Q tgt L st σ) (h2 : ¬ (x < y) → Ok p l e R s m args below meth c Γ nL Q (pc + 3) L st σ) : Ok p l e R s m args below meth c Γ nL Q pc L (.int y :: .int x :: st) σ :=
  fun H locs ls hR hL hls => lv_icmp_lt cx.1 cx.2.1 hd ht (fun q => h1 (by first | exact q | simpa using q) H locs ls hR hL hls) (fun q => h2 (by first | exact q | simpa using q) H locs ls hR hL hls)
theorem k_if_lt (cx : Cx p R s m args c Γ nL σ0 cc own) {x : Int32} {off : Int} (tgt : Nat) (hd : decode cc pc = .ok (.ifCond .lt off, 3)) (ht : (pc : Int) + off = (tgt : Int)) (h1 : x < 0 → Ok p l e R s m args below meth c Γ nL Q tgt L st σ) (h2 : ¬ (x < 0) → Ok p l e R s m args below meth c Γ nL Q (pc + 3) L st σ) : Ok p l e R s m args below meth c Γ nL Q pc L (.int x :: st) σ :=
  fun H locs ls hR hL hls => lv_if_lt cx.1 cx.2.1 hd ht (fun q => h1 (by first | exact q | simpa using q) H locs ls hR hL hls) (fun q => h2 (by first | exact q | simpa using q) H locs ls hR hL hls)
theorem k_icmp_ge (cx : Cx p R s m args c Γ nL σ0 cc own) {x y : Int32} {off : Int} (tgt : Nat) (hd : decode cc pc = .ok (.if_icmp .ge off, 3)) (ht : (pc : Int) + off = (tgt : Int)) (h1 : y ≤ x → Ok p l e R s m args below meth c Γ nL Q tgt L st σ) (h2 : ¬ (y ≤ x) → Ok p l e R s m args below meth c Γ nL Q (pc + 3) L st σ) : Ok p l e R s m args below meth c Γ nL Q pc L (.int y :: .int x :: st) σ :=
  fun H locs ls hR hL hls => lv_icmp_ge cx.1 cx.2.1 hd ht (fun q => h1 (by first | exact q | simpa using q) H locs ls hR hL hls) (fun q => h2 (by first | exact q | simpa using q) H locs ls hR hL hls)
theorem k_if_ge (cx : Cx p R s m args c Γ nL σ0 cc own) {x : Int32} {off : Int} (tgt : Nat) (hd : decode cc pc = .ok (.ifCond .ge off, 3)) (ht : (pc : Int) + off = (tgt : Int)) (h1 : 0 ≤ x → Ok p l e R s m args below meth c Γ nL Q tgt L st σ) (h2 : ¬ (0 ≤ x) → Ok p l e R s m args below meth c Γ nL Q (pc + 3) L st σ) : Ok p l e R s m args below meth c Γ nL Q pc L (.int x :: st) σ :=
  fun H locs ls hR hL hls => lv_if_ge cx.1 cx.2.1 hd ht (fun q => h1 (by first | exact q | simpa using q) H locs ls hR hL hls) (fun q => h2 (by first | exact q | simpa using q) H locs ls hR hL hls)
theorem k_icmp_gt (cx : Cx p R s m args c Γ nL σ0 cc own) {x y : Int32} {off : Int} (tgt : Nat) (hd : decode cc pc = .ok (.if_icmp .gt off, 3)) (ht : (pc : Int) + off = (tgt : Int)) (h1 : y < x → Ok p l e R s m args below meth c Γ nL Q tgt L st σ) (h2 : ¬ (y < x) → Ok p l e R s m args below meth c Γ nL Q (pc + 3) L st σ) : Ok p l e R s m args below meth c Γ nL Q pc L (.int y :: .int x :: st) σ :=
  fun H locs ls hR hL hls => lv_icmp_gt cx.1 cx.2.1 hd ht (fun q => h1 (by first | exact q | simpa using q) H locs ls hR hL hls) (fun q => h2 (by first | exact q | simpa using q) H locs ls hR hL hls)
theorem k_if_gt (cx : Cx p R s m args c Γ nL σ0 cc own) {x : Int32} {off : Int} (tgt : Nat) (hd : decode cc pc = .ok (.ifCond .gt off, 3)) (ht : (pc : Int) + off = (tgt : Int)) (h1 : 0 < x → Ok p l e R s m args below meth c Γ nL Q tgt L st σ) (h2 : ¬ (0 < x) → Ok p l e R s m args below meth c Γ nL Q (pc + 3) L st σ) : Ok p l e R s m args below meth c Γ nL Q pc L (.int x :: st) σ :=
  fun H locs ls hR hL hls => lv_if_gt cx.1 cx.2.1 hd ht (fun q => h1 (by first | exact q | simpa using q) H locs ls hR hL hls) (fun q => h2 (by first | exact q | simpa using q) H locs ls hR hL hls)
theorem k_icmp_le (cx : Cx p R s m args c Γ nL σ0 cc own) {x y : Int32} {off : Int} (tgt : Nat) (hd : decode cc pc = .ok (.if_icmp .le off, 3)) (ht : (pc : Int) + off = (tgt : Int)) (h1 : x ≤ y → Ok p l e R s m args below meth c Γ nL Q tgt L st σ) (h2 : ¬ (x ≤ y) → Ok p l e R s m args below meth c Γ nL Q (pc + 3) L st σ) : Ok p l e R s m args below meth c Γ nL Q pc L (.int y :: .int x :: st) σ :=
  fun H locs ls hR hL hls => lv_icmp_le cx.1 cx.2.1 hd ht (fun q => h1 (by first | exact q | simpa using q) H locs ls hR hL hls) (fun q => h2 (by first | exact q | simpa using q) H locs ls hR hL hls)
theorem k_if_le (cx : Cx p R s m args c Γ nL σ0 cc own) {x : Int32} {off : Int} (tgt : Nat) (hd : decode cc pc = .ok (.ifCond .le off, 3)) (ht : (pc : Int) + off = (tgt : Int)) (h1 : x ≤ 0 → Ok p l e R s m args below meth c Γ nL Q tgt L st σ) (h2 : ¬ (x ≤ 0) → Ok p l e R s m args below meth c Γ nL Q (pc + 3) L st σ) : Ok p l e R s m args below meth c Γ nL Q pc L (.int x :: st) σ :=
  fun H locs ls hR hL hls => lv_if_le cx.1 cx.2.1 hd ht (fun q => h1 (by first | exact q | simpa using q) H locs ls hR hL hls) (fun q => h2 (by first | exact q | simpa using q) H locs ls hR hL hls)
theorem k_ldc2 (cx : Cx p R s m args c Γ nL σ0 cc own) {idx : Nat} (v : Int64) (hw : Cond.constantLong own idx v ∈ TBL) (hd : decode cc pc = .ok (.ldc2_w idx, 3)) (h : Ok p l e R s m args below meth c Γ nL Q (pc + 3) L (.long v :: st) σ) : Ok p l e R s m args below meth c Γ nL Q pc L st σ :=
  fun H locs ls hR hL hls => lv_ldc2 cx.1 cx.2.1 cx.2.2.2.1 (cx.2.2.2.2.1 _ hw) hd (h H locs ls hR hL hls)
/-- tableswitch over lo .. hi: one goal a case, by the value -/
theorem k_switch (cx : Cx p R s m args c Γ nL σ0 cc own) {dflt lo hi : Int} {offs : Array Int} {len : Nat} {x : Int32} (hd : decode cc pc = .ok (.tableswitch dflt lo hi offs, len)) (hn : (hi - lo + 1).toNat = offs.size) (h1 : (x.toInt < lo ∨ hi < x.toInt) → Ok p l e R s m args below meth c Γ nL Q ((pc : Int) + dflt).toNat L st σ) (hp : 0 ≤ (pc : Int) + dflt) (h2 : ∀ (k : Nat) (off : Int), offs[k]? = some off → x.toInt = lo + k → 0 ≤ (pc : Int) + off ∧ Ok p l e R s m args below meth c Γ nL Q ((pc : Int) + off).toNat L st σ) : Ok p l e R s m args below meth c Γ nL Q pc L (.int x :: st) σ := by
  intro H locs ls hR hL hls
  by_cases hx : x.toInt < lo ∨ hi < x.toInt
  · exact lv_tableOut (tgt := ((pc : Int) + dflt).toNat) cx.1 cx.2.1 hd hx (by omega) (h1 hx H locs ls hR hL hls)
  · have a := not_or.mp hx
    have hlt : (x.toInt - lo).toNat < offs.size := by omega
    obtain ⟨off, ho⟩ : ∃ off, offs[(x.toInt - lo).toNat]? = some off := ⟨offs[(x.toInt - lo).toNat], by simp [hlt]⟩
    obtain ⟨b1, b2⟩ := h2 _ off ho (by omega)
    exact lv_tableIn (off := off) (tgt := ((pc : Int) + off).toNat) cx.1 cx.2.1 hd a.1 a.2 ho (by omega) (b2 H locs ls hR hL hls)
/-- a link to field k of class ci -/
def FL (own : String) (idx ci k : Nat) : Prop := ∃ (C : String) (T : u_T) (N : Nat) (ty : Nat → FieldType), (vwCl[ci]? = some (C, T, N) ∧ k < N ∧ ci < 12 ∧ nfl ci = N) ∧ (∀ w ∈ u_ws C T N, w ∈ TBL) ∧ Cond.fieldLink own idx (T k).1 (T k).2.1 (T k).2.2.1 ∈ TBL ∧ (∀ k, k < N → parseFieldDescriptor (T k).2.2.1 = some (ty k)) ∧ (∀ a, a < N → ∀ b, b < N → a ≠ b → (T a).2.1 ≠ (T b).2.1)
theorem rep_at {H : Heap} {a : Nat} (hR : RepH Γ σ H) (h : hpK σ a < 20) : gB Γ ≤ a ∧ a < hpN σ ∧ CellAt Γ σ H a := hR.2.2.2.2.1 a h
theorem k_getX (cx : Cx p R s m args c Γ nL σ0 cc own) {idx ci k a : Nat} {x : Option Nat} {v : Value} (hf : FL own idx ci k) (hv : oV σ ci a k = v) (hx : dn σ ci x = some a) (hd : decode cc pc = .ok (.getfield idx, 3)) (h : Ok p l e R s m args below meth c Γ nL Q (pc + 3) L (v :: st) σ) : Ok p l e R s m args below meth c Γ nL Q pc L (va_rf x :: st) σ := by
  intro H locs ls hR hL hls
  obtain ⟨rfl, hk⟩ := dn_some hx
  obtain ⟨C, T, N, ty, ⟨hc, hkN, hci, hN⟩, hin, hl, -, -⟩ := hf
  have hcell := (rep_at hR (by omega : hpK σ a < 20)).2.2.1 (by omega)
  rw [hk] at hcell
  obtain ⟨cell, q1, q2, q3, q4⟩ := hcell
  obtain ⟨hS, hfc, kC, hkC, hkind⟩ := cx.2.2.2.2.2.1.1.1 ci _ hc
  obtain ⟨cf, kf, fi, f, hi, hsl⟩ := hS k hkN
  refine W.getf cx.1 cx.2.1 cx.2.2.2.1 (cx.2.2.2.2.1 _ hl) hi (u_facts hfc hkC (u_lays cx.2.2.2.2.1 hin hkN) hi).1 q1 (by rw [q3]; exact fun h => by cases h) (v := v) ?_ rfl rfl hd (h H locs ls hR hL hls)
  rw [hsl, q4 k (by omega), hv]
theorem k_getI (cx : Cx p R s m args c Γ nL σ0 cc own) {idx ci k a : Nat} {x : Option Nat} (hf : FL own idx ci k) (ht : fty ci k = 0) (hx : dn σ ci x = some a) (hd : decode cc pc = .ok (.getfield idx, 3)) (h : Ok p l e R s m args below meth c Γ nL Q (pc + 3) L (.int (hpI σ (32 * ci + k) a) :: st) σ) : Ok p l e R s m args below meth c Γ nL Q pc L (va_rf x :: st) σ :=
  k_getX cx hf (by simp [oV, ht]) hx hd h
theorem k_getR (cx : Cx p R s m args c Γ nL σ0 cc own) {idx ci k a : Nat} {x : Option Nat} (hf : FL own idx ci k) (ht : fty ci k = 1) (hx : dn σ ci x = some a) (hd : decode cc pc = .ok (.getfield idx, 3)) (h : Ok p l e R s m args below meth c Γ nL Q (pc + 3) L (va_rf (hpR σ (32 * ci + k) a) :: st) σ) : Ok p l e R s m args below meth c Γ nL Q pc L (va_rf x :: st) σ :=
  k_getX cx hf (by simp [oV, ht]) hx hd h
theorem k_getJ (cx : Cx p R s m args c Γ nL σ0 cc own) {idx ci k a : Nat} {x : Option Nat} (hf : FL own idx ci k) (ht : fty ci k = 2) (hx : dn σ ci x = some a) (hd : decode cc pc = .ok (.getfield idx, 3)) (h : Ok p l e R s m args below meth c Γ nL Q (pc + 3) L (.long (hpJ σ (32 * ci + k) a) :: st) σ) : Ok p l e R s m args below meth c Γ nL Q pc L (va_rf x :: st) σ :=
  k_getX cx hf (by simp [oV, ht]) hx hd h
/-- the state behind a write of one field -/
theorem rep_putO {H H1 : Heap} {a ci k : Nat} {σ1 : St} {cell : Cell} {i : Nat} {v : Value} (hR : RepH Γ σ H) (hk : hpK σ a = ci) (hci : ci < 12) (hkk : k < nfl ci)
    (hN : hpN σ1 = hpN σ) (hC : hpC σ1 = hpC σ) (hS : hpS σ1 = hpS σ) (hK : ∀ b, hpK σ1 b = hpK σ b) (hL : ∀ b, hpL σ1 b = hpL σ b) (hA : ∀ b j, hpA σ1 b j = hpA σ b j) (hB : ∀ b j, hpB σ1 b j = hpB σ b j) (hG : ∀ i, hpG σ1 i = hpG σ i)
    (hV : oV σ1 ci a = updV (oV σ ci a) k v) (hO : ∀ b cj j, b ≠ a → oV σ1 cj b j = oV σ cj b j)
    (h1 : H[a]? = some cell) (e1 : H1[a]? = some (cell.setSlot i v)) (z : H1.size = H.size) (oq : ∀ q : Nat, q ≠ a → H1[q]? = H[q]?) (hob : t_OB a ((gD Γ).1 ci) (nfl ci) ((gD Γ).2 ci) H1 (updV (oV σ ci a) k v)) : RepH Γ σ1 H1 := by
  obtain ⟨r1, r2, r3, r4, r5, r6, r7, r8, r9⟩ := hR
  have hab := r5 a (by omega)
  refine ⟨by rw [z, hN]; exact r1, by rw [hN, hC]; exact r2, fun b hb => by rw [oq b (by omega)]; exact r3 b hb, ?_, fun b hb => ?_, fun b hb => ?_, fun i => by rw [hG]; exact r7 i, by rw [hC]; exact r8, by rw [hS]; exact r9⟩
  · rw [hS, ← r4]
    refine hsz_same z (fun q => ?_)
    by_cases hq : q = a
    · subst hq
      rw [e1, h1]
      simp [Cell.setSlot]
    · rw [oq q hq]
  · rw [hK] at hb
    obtain ⟨b1, b2, b3⟩ := r5 b hb
    refine ⟨b1, by rw [hN]; exact b2, ?_⟩
    by_cases hq : b = a
    · subst hq
      refine ⟨fun _ => ?_, fun h => ?_, fun h => ?_⟩
      · rw [hK, hk, hV]; exact hob
      · rw [hK] at h; omega
      · rw [hK] at h; omega
    · refine ⟨fun h => ?_, fun h => ?_, fun h => ?_⟩
      · rw [hK] at h ⊢
        exact ((b3.1 h).kept (oq b hq)).to (fun j _ => (hO b _ j hq).symm)
      · rw [hK] at h ⊢
        rw [oq b hq, b3.2.1 h, hL]
        simp only [hA]
      · rw [hK] at h ⊢
        rw [oq b hq, b3.2.2 h, hL]
        simp only [hB]
  · rw [hK] at hb
    obtain ⟨f, f1, f2⟩ := r6 b hb
    exact ⟨f, by rw [hL]; exact f1, fun j hj => by rw [hA]; rw [hL] at hj; exact f2 j hj⟩
theorem k_putX (cx : Cx p R s m args c Γ nL σ0 cc own) {idx ci k a : Nat} {x : Option Nat} {v : Value} {σ1 : St} (hf : FL own idx ci k) (hx : dn σ ci x = some a) (hfin : ∀ (C : String) (T : u_T) (N : Nat), vwCl[ci]? = some (C, T, N) → (T k).2.2.2 = false ∨ (meth.name = "<init>" ∧ (T k).1 = own))
    (hfit : ∀ (C : String) (T : u_T) (N : Nat), vwCl[ci]? = some (C, T, N) → ∃ ty, parseFieldDescriptor (T k).2.2.1 = some ty ∧ narrow ty v = v ∧ fits ty v = true)
    (hN : hpN σ1 = hpN σ) (hC : hpC σ1 = hpC σ) (hS : hpS σ1 = hpS σ) (hK : ∀ b, hpK σ1 b = hpK σ b) (hL : ∀ b, hpL σ1 b = hpL σ b) (hA : ∀ b j, hpA σ1 b j = hpA σ b j) (hB : ∀ b j, hpB σ1 b j = hpB σ b j) (hG : ∀ i, hpG σ1 i = hpG σ i)
    (hV : oV σ1 ci a = updV (oV σ ci a) k v) (hO : ∀ b cj j, b ≠ a → oV σ1 cj b j = oV σ cj b j)
    (hd : decode cc pc = .ok (.putfield idx, 3)) (h : Ok p l e R s m args below meth c Γ nL Q (pc + 3) L st σ1) : Ok p l e R s m args below meth c Γ nL Q pc L (v :: va_rf x :: st) σ := by
  intro H locs ls hR hL0 hls
  obtain ⟨rfl, hk⟩ := dn_some hx
  obtain ⟨C, T, N, ty0, ⟨hc, hkN, hci, hNn⟩, hin, hl, hty, hnm⟩ := hf
  have hat := rep_at hR (by omega : hpK σ a < 20)
  have hcell := hat.2.2.1 (by omega)
  rw [hk] at hcell
  have hap := va_apart (own := own) cx.2.2.2.2.1 hin ty0 hty hnm cx.2.2.2.2.2.1.1 hc
  obtain ⟨cell, q1, q2, q3, q4⟩ := hcell
  rw [hNn] at q4
  obtain ⟨hS1, hfc, kC, hkC, hkind⟩ := cx.2.2.2.2.2.1.1.1 ci _ hc
  obtain ⟨cf, kf, fi, f, hi, hsl⟩ := hS1 k hkN
  obtain ⟨ty, hty1, hn1, hft1⟩ := hfit C T N hc
  have hst := (u_facts hfc hkC (u_lays cx.2.2.2.2.1 hin hkN) hi).1
  have hlay := cx.2.2.2.2.1 _ (hin _ (u_in_lay hkN))
  have hgo : ∀ H1 : Heap, H1[a]? = some (cell.setSlot f.slot v) → H1.size = H.size → (∀ q, q ≠ a → H1[q]? = H[q]?) → W p l e R s m args below meth c H1 (locs ++ [⟨a, f.slot⟩]) R.cells R.slots Q (F0 m (pc + 3) ls st) := by
    intro H1 e1 e2 e3
    have hsl' : f.slot = (gD Γ).2 ci k := hsl
    rw [hsl'] at e1
    refine h H1 _ ls (rep_putO hR hk hci (by omega) hN hC hS hK hL hA hB hG hV hO q1 e1 e2 e3 ⟨_, e1, q2, q3, by rw [hNn]; exact t_set q4 hap hkN v⟩) (fun q hq => ?_) hls
    rcases List.mem_append.mp hq with h9 | h9
    · exact hL0 q h9
    · rw [List.mem_singleton.mp h9]; exact hat.1
  have hlt : f.slot < cell.slots.size := by
    rw [hsl]; exact k2_hasslot (q4 k hkN)
  by_cases hfn : (T k).2.2.2 = true
  · rcases hfin C T N hc with h9 | ⟨h9, hdecl⟩
    · rw [h9] at hfn; cases hfn
    · unfold u_lay at hlay
      rw [if_pos hfn] at hlay
      have hcf : m.cls = cf := by
        obtain ⟨_, _, c', _, _, _, -, -, hf', -, -, -, hown2, -⟩ := Cond.laysFinal_spec hlay
        have e1 : c' = cf := by have := hi.symm.trans hf'; simp at this; exact this.1.symm
        rw [hdecl] at hown2
        rw [← e1]; exact Option.some.inj (cx.2.2.2.1.symm.trans hown2)
      have h6 := u_fits hfc hkC hkind (Or.inr hlay) hi hty1 hn1 hft1
      exact W.putFinK cx.1 cx.2.1 cx.2.2.2.1 (cx.2.2.2.2.1 _ hl) hi hst hcf h9 (by rw [q2]; exact h6) q1 q3 hlt rfl rfl hd hgo
  · unfold u_lay at hlay
    rw [if_neg hfn] at hlay
    have h6 := u_store hfc hkC hkind hlay hi hty1 hn1 hft1
    exact W.putK cx.1 cx.2.1 (f := f) ⟨cx.2.2.2.1, cx.2.2.2.2.1 _ hl, ⟨_, _, _, hi⟩, hst⟩ (by rw [q2]; exact h6) q1 q3 hlt rfl rfl hd hgo
/-- the type that a field of int kind takes: PI (an int), PZ (a boolean); and that it may be written -/
def PF (own : String) (ci k : Nat) (T0 : FieldType) (fin : Bool) : Prop := ∃ (C : String) (T : u_T) (N : Nat), vwCl[ci]? = some (C, T, N) ∧ parseFieldDescriptor (T k).2.2.1 = some T0 ∧ (T k).2.2.2 = fin ∧ (T k).1 = own
theorem oV_stI (f0 a0 : Nat) (v : Int32) (ci b : Nat) (hb : b ≠ a0) (j : Nat) : oV (stI σ f0 a0 v) ci b j = oV σ ci b j := by
  simp only [oV, hpI_stI, hpR_stI, hpJ_stI]
  rw [if_neg (fun q => hb q.2)]
theorem oV_stR (f0 a0 : Nat) (v : Option Nat) (ci b : Nat) (hb : b ≠ a0) (j : Nat) : oV (stR σ f0 a0 v) ci b j = oV σ ci b j := by
  simp only [oV, hpI_stR, hpR_stR, hpJ_stR]
  rw [if_neg (fun q => hb q.2)]
theorem oV_stJ (f0 a0 : Nat) (v : Int64) (ci b : Nat) (hb : b ≠ a0) (j : Nat) : oV (stJ σ f0 a0 v) ci b j = oV σ ci b j := by
  simp only [oV, hpI_stJ, hpR_stJ, hpJ_stJ]
  rw [if_neg (fun q => hb q.2)]
theorem pf_fin {ci k : Nat} {T0 : FieldType} {fin : Bool} (hp : PF own ci k T0 fin) (hin : fin = false ∨ meth.name = "<init>") : ∀ (C : String) (T : u_T) (N : Nat), vwCl[ci]? = some (C, T, N) → (T k).2.2.2 = false ∨ (meth.name = "<init>" ∧ (T k).1 = own) := by
  obtain ⟨C, T, N, h1, h2, h3, h4⟩ := hp
  intro C' T' N' h'
  cases h1.symm.trans h'
  rcases hin with rfl | h
  · exact Or.inl h3
  · exact Or.inr ⟨h, h4⟩
def PG (ci k : Nat) (T0 : FieldType) : Prop := ∃ (C : String) (T : u_T) (N : Nat), vwCl[ci]? = some (C, T, N) ∧ parseFieldDescriptor (T k).2.2.1 = some T0 ∧ (T k).2.2.2 = false
theorem pg_fin {ci k : Nat} {T0 : FieldType} (hp : PG ci k T0) : ∀ (C : String) (T : u_T) (N : Nat), vwCl[ci]? = some (C, T, N) → (T k).2.2.2 = false ∨ (meth.name = "<init>" ∧ (T k).1 = own) := by
  obtain ⟨C, T, N, h1, h2, h3⟩ := hp
  intro C' T' N' h'
  cases h1.symm.trans h'
  exact Or.inl h3
def PT (ci k : Nat) (T0 : FieldType) : Prop := ∃ (C : String) (T : u_T) (N : Nat), vwCl[ci]? = some (C, T, N) ∧ parseFieldDescriptor (T k).2.2.1 = some T0
theorem pt_fit {ci k : Nat} {T0 : FieldType} {v : Value} (hp : PT ci k T0) (h1 : narrow T0 v = v) (h2 : fits T0 v = true) : ∀ (C : String) (T : u_T) (N : Nat), vwCl[ci]? = some (C, T, N) → ∃ ty, parseFieldDescriptor (T k).2.2.1 = some ty ∧ narrow ty v = v ∧ fits ty v = true := by
  obtain ⟨C, T, N, h3, h4⟩ := hp
  intro C' T' N' h'
  cases h3.symm.trans h'
  exact ⟨T0, h4, h1, h2⟩
theorem gz_narrow {v w : Int32} (h : gz v = some w) : narrow .boolean (.int v) = .int v ∧ fits .boolean (.int v) = true := by
  rcases (gz_some h).2 with rfl | rfl <;> exact ⟨rfl, rfl⟩
theorem oV_I {ci k : Nat} (ht : fty ci k = 0) (hk : k < 32) (a : Nat) (v : Int32) : oV (stI σ (32 * ci + k) a v) ci a = updV (oV σ ci a) k (.int v) := by
  funext j
  simp only [oV, hpI_stI, hpR_stI, hpJ_stI, updV]
  by_cases hj : j = k
  · subst hj
    simp [ht]
  · simp [hj]
theorem oV_R {ci k : Nat} (ht : fty ci k = 1) (a : Nat) (v : Option Nat) : oV (stR σ (32 * ci + k) a v) ci a = updV (oV σ ci a) k (va_rf v) := by
  funext j
  simp only [oV, hpI_stR, hpR_stR, hpJ_stR, updV]
  by_cases hj : j = k
  · subst hj
    simp [ht]
  · simp [hj]
theorem oV_J {ci k : Nat} (ht : fty ci k = 2) (a : Nat) (v : Int64) : oV (stJ σ (32 * ci + k) a v) ci a = updV (oV σ ci a) k (.long v) := by
  funext j
  simp only [oV, hpI_stJ, hpR_stJ, hpJ_stJ, updV]
  by_cases hj : j = k
  · subst hj
    simp [ht]
  · simp [hj]
theorem k_putI (cx : Cx p R s m args c Γ nL σ0 cc own) {idx ci k a : Nat} {x : Option Nat} {v : Int32} (hf : FL own idx ci k) (ht : fty ci k = 0) (hk : k < 32) (hp : PT ci k .int) (hg : PG ci k .int) (hx : dn σ ci x = some a) (hd : decode cc pc = .ok (.putfield idx, 3)) (h : Ok p l e R s m args below meth c Γ nL Q (pc + 3) L st (stI σ (32 * ci + k) a v)) : Ok p l e R s m args below meth c Γ nL Q pc L (.int v :: va_rf x :: st) σ :=
  k_putX (σ1 := stI σ (32 * ci + k) a v) cx hf hx (pg_fin hg) (pt_fit hp rfl rfl) rfl rfl rfl (fun _ => rfl) (fun _ => rfl) (fun _ _ => rfl) (fun _ _ => rfl) (fun _ => rfl) (oV_I ht hk a v) (fun b cj j hb => oV_stI _ a v cj b hb j) hd h
theorem k_putZ (cx : Cx p R s m args c Γ nL σ0 cc own) {idx ci k a : Nat} {x : Option Nat} {v w : Int32} (hf : FL own idx ci k) (ht : fty ci k = 0) (hk : k < 32) (hp : PT ci k .boolean) (hg : PG ci k .boolean) (hx : dn σ ci x = some a) (hz : gz v = some w) (hd : decode cc pc = .ok (.putfield idx, 3)) (h : Ok p l e R s m args below meth c Γ nL Q (pc + 3) L st (stI σ (32 * ci + k) a v)) : Ok p l e R s m args below meth c Γ nL Q pc L (.int v :: va_rf x :: st) σ :=
  k_putX (σ1 := stI σ (32 * ci + k) a v) cx hf hx (pg_fin hg) (pt_fit hp (gz_narrow hz).1 (gz_narrow hz).2) rfl rfl rfl (fun _ => rfl) (fun _ => rfl) (fun _ _ => rfl) (fun _ _ => rfl) (fun _ => rfl) (oV_I ht hk a v) (fun b cj j hb => oV_stI _ a v cj b hb j) hd h
theorem k_putIF (cx : Cx p R s m args c Γ nL σ0 cc own) {idx ci k a : Nat} {x : Option Nat} {v : Int32} {fin : Bool} (hf : FL own idx ci k) (ht : fty ci k = 0) (hk : k < 32) (hp : PT ci k .int) (hg : PF own ci k .int fin) (hin : meth.name = "<init>") (hx : dn σ ci x = some a) (hd : decode cc pc = .ok (.putfield idx, 3)) (h : Ok p l e R s m args below meth c Γ nL Q (pc + 3) L st (stI σ (32 * ci + k) a v)) : Ok p l e R s m args below meth c Γ nL Q pc L (.int v :: va_rf x :: st) σ :=
  k_putX (σ1 := stI σ (32 * ci + k) a v) cx hf hx (pf_fin hg (Or.inr hin)) (pt_fit hp rfl rfl) rfl rfl rfl (fun _ => rfl) (fun _ => rfl) (fun _ _ => rfl) (fun _ _ => rfl) (fun _ => rfl) (oV_I ht hk a v) (fun b cj j hb => oV_stI _ a v cj b hb j) hd h
theorem k_putZF (cx : Cx p R s m args c Γ nL σ0 cc own) {idx ci k a : Nat} {x : Option Nat} {v w : Int32} {fin : Bool} (hf : FL own idx ci k) (ht : fty ci k = 0) (hk : k < 32) (hp : PT ci k .boolean) (hg : PF own ci k .boolean fin) (hin : meth.name = "<init>") (hx : dn σ ci x = some a) (hz : gz v = some w) (hd : decode cc pc = .ok (.putfield idx, 3)) (h : Ok p l e R s m args below meth c Γ nL Q (pc + 3) L st (stI σ (32 * ci + k) a v)) : Ok p l e R s m args below meth c Γ nL Q pc L (.int v :: va_rf x :: st) σ :=
  k_putX (σ1 := stI σ (32 * ci + k) a v) cx hf hx (pf_fin hg (Or.inr hin)) (pt_fit hp (gz_narrow hz).1 (gz_narrow hz).2) rfl rfl rfl (fun _ => rfl) (fun _ => rfl) (fun _ _ => rfl) (fun _ _ => rfl) (fun _ => rfl) (oV_I ht hk a v) (fun b cj j hb => oV_stI _ a v cj b hb j) hd h
theorem rf_fit (T0 : FieldType) (hT : T0.isReference = true) (v : Option Nat) : narrow T0 (va_rf v) = va_rf v ∧ fits T0 (va_rf v) = true := by
  cases T0 <;> first | (cases v <;> exact ⟨rfl, rfl⟩) | exact absurd hT (by decide)
theorem k_putRF (cx : Cx p R s m args c Γ nL σ0 cc own) {idx ci k a : Nat} {x v : Option Nat} {T0 : FieldType} {fin : Bool} (hf : FL own idx ci k) (ht : fty ci k = 1) (hT : T0.isReference = true) (hp : PT ci k T0) (hg : PF own ci k T0 fin) (hin : meth.name = "<init>") (hx : dn σ ci x = some a) (hd : decode cc pc = .ok (.putfield idx, 3)) (h : Ok p l e R s m args below meth c Γ nL Q (pc + 3) L st (stR σ (32 * ci + k) a v)) : Ok p l e R s m args below meth c Γ nL Q pc L (va_rf v :: va_rf x :: st) σ :=
  k_putX (σ1 := stR σ (32 * ci + k) a v) cx hf hx (pf_fin hg (Or.inr hin)) (pt_fit hp (rf_fit T0 hT v).1 (rf_fit T0 hT v).2) rfl rfl rfl (fun _ => rfl) (fun _ => rfl) (fun _ _ => rfl) (fun _ _ => rfl) (fun _ => rfl) (oV_R ht a v) (fun b cj j hb => oV_stR _ a v cj b hb j) hd h
theorem k_putJ (cx : Cx p R s m args c Γ nL σ0 cc own) {idx ci k a : Nat} {x : Option Nat} {v : Int64} (hf : FL own idx ci k) (ht : fty ci k = 2) (hp : PT ci k .long) (hg : PG ci k .long) (hx : dn σ ci x = some a) (hd : decode cc pc = .ok (.putfield idx, 3)) (h : Ok p l e R s m args below meth c Γ nL Q (pc + 3) L st (stJ σ (32 * ci + k) a v)) : Ok p l e R s m args below meth c Γ nL Q pc L (.long v :: va_rf x :: st) σ :=
  k_putX (σ1 := stJ σ (32 * ci + k) a v) cx hf hx (pg_fin hg) (pt_fit hp rfl rfl) rfl rfl rfl (fun _ => rfl) (fun _ => rfl) (fun _ _ => rfl) (fun _ _ => rfl) (fun _ => rfl) (oV_J ht a v) (fun b cj j hb => oV_stJ _ a v cj b hb j) hd h
end OKM

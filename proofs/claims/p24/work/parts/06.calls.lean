section OKA
variable {p : Program} {l : Launch} {e : Env} {R : Room} {s : State} {m : MethodId} {args : Array Value} {below : List Frame} {meth : Method} {c : Code} {Q : State → Prop} {Γ : GE} {σ0 σ : St} {nL pc : Nat} {cc : ByteArray} {own : String} {L L' : List (Nat × Value)} {st : List Value}
theorem gl_arr {U : State} {k : Nat} (hG : Glob Γ U) (h1 : 12 ≤ k) (h2 : k < 20) : ArrOfT U (gA Γ k) (aty k) ∧ va_RA U (gA Γ k) (aty k) := hG.1.2 (k - 12) _ (tysG_at Γ h1 h2)
theorem aty_ref {k : Nat} (h1 : 14 ≤ k) (h2 : k < 20) : ∃ C, aty k = .object C := by
  rcases (by omega : k = 14 ∨ k = 15 ∨ k = 16 ∨ k = 17 ∨ k = 18 ∨ k = 19) with rfl | rfl | rfl | rfl | rfl | rfl <;> exact ⟨_, rfl⟩
/-- an int array's cell, of the run or a static one -/
theorem rep_iarr {H : Heap} {a : Nat} (hG : Glob Γ s) (hR : RepH Γ σ H) (h : hpK σ a = 13 ∨ hpK σ a = 20) : ∃ cell : Cell, H[a]? = some cell ∧ s.isArrayOf cell .int ∧ cell.vm ≠ .unknown ∧ cell.slots.size = hpL σ a ∧ ∀ j, j < hpL σ a → cell.slots[j]? = some (.int (hpA σ a j)) := by
  rcases h with h | h
  · have hc := (rep_at hR (by omega : hpK σ a < 20)).2.2.2.1 (Or.inr h)
    rw [h] at hc
    exact ⟨_, hc, (gl_arr hG (k := 13) (by omega) (by omega)).1 _ _, (fun q => by cases q), by rw [arrV_size], fun j hj => arrV_read _ (fun j => .int (hpA σ a j)) hj⟩
  · obtain ⟨f, h1, h2⟩ := hR.2.2.2.2.2.1 a h
    obtain ⟨hb, cell, h3, h4, h5, h6, h7⟩ := hG.2.2.2.2.2.1 a _ f h1
    exact ⟨cell, by rw [hR.2.2.1 a hb]; exact h3, h4, h5, h6, fun j hj => by rw [h2 j hj]; exact h7 j hj⟩
theorem k_iald (cx : Cx p R s m args c Γ nL σ0 cc own) {a j : Nat} {x : Option Nat} {i : Int32} (hx : dnA σ x = some a) (hi : ix i (hpL σ a) = some j) (hd : decode cc pc = .ok (.iaload, 1)) (h : Ok p l e R s m args below meth c Γ nL Q (pc + 1) L (.int (hpA σ a j) :: st) σ) : Ok p l e R s m args below meth c Γ nL Q pc L (.int i :: va_rf x :: st) σ := by
  intro H locs ls hR hL hls
  obtain ⟨rfl, hk⟩ := dnA_some hx
  obtain ⟨hin, rfl⟩ := ix_some hi
  obtain ⟨cell, h1, h2, h3, h4, h5⟩ := rep_iarr cx.2.2.2.2.2.1 hR hk
  refine W.iald cx.1 cx.2.1 h1 h2 h3 (by rw [h4]; exact hin) (v := .int (hpA σ a i.toNatClampNeg)) (h5 _ (Nat.not_le.mp fun q => hin (Or.inr q))) rfl rfl hd (h H locs ls hR hL hls)
theorem k_alenA (cx : Cx p R s m args c Γ nL σ0 cc own) {a : Nat} {x : Option Nat} (hx : dnA σ x = some a) (hd : decode cc pc = .ok (.arraylength, 1)) (h : Ok p l e R s m args below meth c Γ nL Q (pc + 1) L (.int (nI (hpL σ a)) :: st) σ) : Ok p l e R s m args below meth c Γ nL Q pc L (va_rf x :: st) σ := by
  intro H locs ls hR hL hls
  obtain ⟨rfl, hk⟩ := dnA_some hx
  obtain ⟨cell, h1, h2, h3, h4, h5⟩ := rep_iarr cx.2.2.2.2.2.1 hR hk
  exact W.alen (n := nI (hpL σ a)) cx.1 cx.2.1 h1 h2 (by rw [h4]; rfl) rfl rfl hd (h H locs ls hR hL hls)
theorem k_alen (cx : Cx p R s m args c Γ nL σ0 cc own) {a k : Nat} {x : Option Nat} (hk : 12 ≤ k ∧ k < 20) (hx : dn σ k x = some a) (hd : decode cc pc = .ok (.arraylength, 1)) (h : Ok p l e R s m args below meth c Γ nL Q (pc + 1) L (.int (nI (hpL σ a)) :: st) σ) : Ok p l e R s m args below meth c Γ nL Q pc L (va_rf x :: st) σ := by
  intro H locs ls hR hL hls
  obtain ⟨rfl, rfl⟩ := dn_some hx
  have hat := (rep_at hR hk.2).2.2
  by_cases h14 : 14 ≤ hpK σ a
  · exact W.alen (n := nI (hpL σ a)) cx.1 cx.2.1 (hat.2.2 h14) ((gl_arr cx.2.2.2.2.2.1 hk.1 hk.2).1 _ _) (by rw [arrV_size]; rfl) rfl rfl hd (h H locs ls hR hL hls)
  · exact W.alen (n := nI (hpL σ a)) cx.1 cx.2.1 (hat.2.1 (by omega)) ((gl_arr cx.2.2.2.2.2.1 hk.1 hk.2).1 _ _) (by rw [arrV_size]; rfl) rfl rfl hd (h H locs ls hR hL hls)
theorem k_bald (cx : Cx p R s m args c Γ nL σ0 cc own) {a j : Nat} {x : Option Nat} {i : Int32} (hx : dn σ 12 x = some a) (hi : ix i (hpL σ a) = some j) (hd : decode cc pc = .ok (.baload, 1)) (h : Ok p l e R s m args below meth c Γ nL Q (pc + 1) L (.int (hpA σ a j) :: st) σ) : Ok p l e R s m args below meth c Γ nL Q pc L (.int i :: va_rf x :: st) σ := by
  intro H locs ls hR hL hls
  obtain ⟨rfl, hk⟩ := dn_some hx
  obtain ⟨hin, rfl⟩ := ix_some hi
  have hc := (rep_at hR (by omega : hpK σ a < 20)).2.2.2.1 (Or.inl hk)
  rw [hk] at hc
  exact W.bald (v := .int (hpA σ a i.toNatClampNeg)) cx.1 cx.2.1 hc ((gl_arr cx.2.2.2.2.2.1 (k := 12) (by omega) (by omega)).1 _ _) (fun q => by cases q) (by rw [arrV_size]; exact hin) (arrV_read _ (fun j => .int (hpA σ a j)) (Nat.not_le.mp fun q => hin (Or.inr q))) rfl rfl hd (h H locs ls hR hL hls)
theorem k_aald (cx : Cx p R s m args c Γ nL σ0 cc own) {a j k : Nat} {x : Option Nat} {i : Int32} (hk : 14 ≤ k ∧ k < 20) (hx : dn σ k x = some a) (hi : ix i (hpL σ a) = some j) (hd : decode cc pc = .ok (.aaload, 1)) (h : Ok p l e R s m args below meth c Γ nL Q (pc + 1) L (va_rf (hpB σ a j) :: st) σ) : Ok p l e R s m args below meth c Γ nL Q pc L (.int i :: va_rf x :: st) σ := by
  intro H locs ls hR hL hls
  obtain ⟨rfl, rfl⟩ := dn_some hx
  obtain ⟨hin, rfl⟩ := ix_some hi
  have hc := (rep_at hR hk.2).2.2.2.2 hk.1
  obtain ⟨C, hC⟩ := aty_ref hk.1 hk.2
  exact W.aald (v := va_rf (hpB σ a i.toNatClampNeg)) (ty := aty (hpK σ a)) cx.1 cx.2.1 hc ((gl_arr cx.2.2.2.2.2.1 (by omega) hk.2).1 _ _) (by rw [hC]; rfl) (fun q => by cases q) (by rw [arrV_size]; exact hin) (arrV_read _ (fun j => va_rf (hpB σ a j)) (Nat.not_le.mp fun q => hin (Or.inr q))) rfl rfl hd (h H locs ls hR hL hls)
/-- the state behind a write into an array -/
theorem rep_putA {H H1 : Heap} {a : Nat} {σ1 : St} (hR : RepH Γ σ H) (hk : 12 ≤ hpK σ a ∧ hpK σ a < 20)
    (hN : hpN σ1 = hpN σ) (hC : hpC σ1 = hpC σ) (hS : hpS σ1 = hpS σ) (hK : ∀ b, hpK σ1 b = hpK σ b) (hL : ∀ b, hpL σ1 b = hpL σ b) (hG : ∀ i, hpG σ1 i = hpG σ i) (hV : ∀ b cj j, oV σ1 cj b j = oV σ cj b j)
    (hA : ∀ b j, b ≠ a → hpA σ1 b j = hpA σ b j) (hB : ∀ b j, b ≠ a → hpB σ1 b j = hpB σ b j) {F0 F1 : Nat → Value}
    (h0 : H[a]? = some (arrV (gA Γ (hpK σ a)) (hpL σ a) F0)) (h1 : H1[a]? = some (arrV (gA Γ (hpK σ a)) (hpL σ a) F1)) (hi : (hpK σ a = 12 ∨ hpK σ a = 13) → F1 = fun j => .int (hpA σ1 a j)) (hr : 14 ≤ hpK σ a → F1 = fun j => va_rf (hpB σ1 a j))
    (z : H1.size = H.size) (oq : ∀ q : Nat, q ≠ a → H1[q]? = H[q]?) : RepH Γ σ1 H1 := by
  obtain ⟨r1, r2, r3, r4, r5, r6, r7, r8, r9⟩ := hR
  have hab := r5 a (by omega)
  refine ⟨by rw [z, hN]; exact r1, by rw [hN, hC]; exact r2, fun b hb => by rw [oq b (by omega)]; exact r3 b hb, ?_, fun b hb => ?_, fun b hb => ?_, fun i => by rw [hG]; exact r7 i, by rw [hC]; exact r8, by rw [hS]; exact r9⟩
  · rw [hS, ← r4]
    refine hsz_same z (fun q => ?_)
    by_cases hq : q = a
    · subst hq
      rw [h1, h0]
      simp only [Option.map_some, arrV_size]
    · rw [oq q hq]
  · rw [hK] at hb
    obtain ⟨b1, b2, b3⟩ := r5 b hb
    refine ⟨b1, by rw [hN]; exact b2, ?_⟩
    by_cases hq : b = a
    · subst hq
      refine ⟨fun h => ?_, fun h => ?_, fun h => ?_⟩
      · rw [hK] at h; omega
      · rw [hK] at h ⊢
        rw [h1, hL, hi h]
      · rw [hK] at h ⊢
        rw [h1, hL, hr h]
    · refine ⟨fun h => ?_, fun h => ?_, fun h => ?_⟩
      · rw [hK] at h ⊢
        exact ((b3.1 h).kept (oq b hq)).to (fun j _ => (hV b _ j).symm)
      · rw [hK] at h ⊢
        rw [oq b hq, b3.2.1 h, hL]
        simp only [hA b _ hq]
      · rw [hK] at h ⊢
        rw [oq b hq, b3.2.2 h, hL]
        simp only [hB b _ hq]
  · rw [hK] at hb
    obtain ⟨f, f1, f2⟩ := r6 b hb
    have hne : b ≠ a := fun q => by subst q; omega
    exact ⟨f, by rw [hL]; exact f1, fun j hj => by rw [hA b j hne]; rw [hL] at hj; exact f2 j hj⟩
theorem updV_int (f : Nat → Int32) (a0 j0 : Nat) (v : Int32) (h : ∀ j, hpA σ a0 j = f j) : updV (fun j => .int (f j)) j0 (.int v) = fun j => Value.int (hpA (stA σ a0 j0 v) a0 j) := by
  funext j
  simp only [updV, hpA_stA, h]
  by_cases hj : j = j0
  · simp [hj]
  · simp [hj]
theorem updV_ref (a0 j0 : Nat) (v : Option Nat) : updV (fun j => va_rf (hpB σ a0 j)) j0 (va_rf v) = fun j => va_rf (hpB (stB σ a0 j0 v) a0 j) := by
  funext j
  simp only [updV, hpB_stB]
  by_cases hj : j = j0
  · simp [hj]
  · simp [hj]
theorem loc_app {b : Nat} {locs : List Loc} {x : Loc} (h : ∀ q ∈ locs, b ≤ q.base) (hx : b ≤ x.base) : ∀ q ∈ locs ++ [x], b ≤ q.base := by
  intro q hq
  rcases List.mem_append.mp hq with h1 | h1
  · exact h q h1
  · rw [List.mem_singleton.mp h1]; exact hx
theorem k_iast (cx : Cx p R s m args c Γ nL σ0 cc own) {a j : Nat} {x : Option Nat} {i v : Int32} (hx : dn σ 13 x = some a) (hi : ix i (hpL σ a) = some j) (hd : decode cc pc = .ok (.iastore, 1)) (h : Ok p l e R s m args below meth c Γ nL Q (pc + 1) L st (stA σ a j v)) : Ok p l e R s m args below meth c Γ nL Q pc L (.int v :: .int i :: va_rf x :: st) σ := by
  intro H locs ls hR hL hls
  obtain ⟨rfl, hk⟩ := dn_some hx
  obtain ⟨hin, rfl⟩ := ix_some hi
  have hat := rep_at hR (by omega : hpK σ a < 20)
  have hc := hat.2.2.2.1 (Or.inr hk)
  refine W.iast cx.1 cx.2.1 hc (by rw [hk]; exact (gl_arr cx.2.2.2.2.2.1 (k := 13) (by omega) (by omega)).1 _ _) (fun q => by cases q) (by rw [arrV_size]; exact hin) rfl rfl hd fun H1 e1 e2 e3 => ?_
  rw [arrV_store, updV_int _ a _ v (fun _ => rfl)] at e1
  exact h H1 _ ls (rep_putA (σ1 := stA σ a i.toNatClampNeg v) hR (by omega) rfl rfl rfl (fun _ => rfl) (fun _ => rfl) (fun _ => rfl) (fun _ _ _ => rfl) (fun b j hb => by rw [hpA_stA, if_neg (fun q => hb q.1)]) (fun _ _ _ => rfl) hc e1 (fun _ => rfl) (fun q => by omega) e2 e3) (loc_app hL hat.1) hls
theorem k_bast (cx : Cx p R s m args c Γ nL σ0 cc own) {a j : Nat} {x : Option Nat} {i v : Int32} (hx : dn σ 12 x = some a) (hi : ix i (hpL σ a) = some j) (hd : decode cc pc = .ok (.bastore, 1)) (h : Ok p l e R s m args below meth c Γ nL Q (pc + 1) L st (stA σ a j v.toInt8.toInt32)) : Ok p l e R s m args below meth c Γ nL Q pc L (.int v :: .int i :: va_rf x :: st) σ := by
  intro H locs ls hR hL hls
  obtain ⟨rfl, hk⟩ := dn_some hx
  obtain ⟨hin, rfl⟩ := ix_some hi
  have hat := rep_at hR (by omega : hpK σ a < 20)
  have hc := hat.2.2.2.1 (Or.inl hk)
  refine W.bast cx.1 cx.2.1 hc (by rw [hk]; exact (gl_arr cx.2.2.2.2.2.1 (k := 12) (by omega) (by omega)).1 _ _) (fun q => by cases q) (by rw [arrV_size]; exact hin) rfl rfl hd fun H1 e1 e2 e3 => ?_
  rw [arrV_store] at e1
  have e1 : H1[a]? = some (arrV (gA Γ (hpK σ a)) (hpL σ a) (updV (fun j => .int (hpA σ a j)) i.toNatClampNeg (.int v.toInt8.toInt32))) := e1
  rw [updV_int _ a _ _ (fun _ => rfl)] at e1
  exact h H1 _ ls (rep_putA (σ1 := stA σ a i.toNatClampNeg v.toInt8.toInt32) hR (by omega) rfl rfl rfl (fun _ => rfl) (fun _ => rfl) (fun _ => rfl) (fun _ _ _ => rfl) (fun b j hb => by rw [hpA_stA, if_neg (fun q => hb q.1)]) (fun _ _ _ => rfl) hc e1 (fun _ => rfl) (fun q => by omega) e2 e3) (loc_app hL hat.1) hls
theorem ecl_at {k : Nat} (h1 : 14 ≤ k) (h2 : k < 20) : ecl k < 12 ∧ ∃ (C : String) (T : u_T) (N : Nat), vwCl[ecl k]? = some (C, T, N) ∧ aty k = .object C := by
  rcases (by omega : k = 14 ∨ k = 15 ∨ k = 16 ∨ k = 17 ∨ k = 18 ∨ k = 19) with rfl | rfl | rfl | rfl | rfl | rfl <;> exact ⟨by decide, _, _, _, rfl, rfl⟩
theorem k_aast (cx : Cx p R s m args c Γ nL σ0 cc own) {a j k : Nat} {x v w : Option Nat} {i : Int32} (hk : 14 ≤ k ∧ k < 20) (hx : dn σ k x = some a) (hi : ix i (hpL σ a) = some j) (hv : dm σ (ecl k) v = some w) (hd : decode cc pc = .ok (.aastore, 1)) (h : Ok p l e R s m args below meth c Γ nL Q (pc + 1) L st (stB σ a j v)) : Ok p l e R s m args below meth c Γ nL Q pc L (va_rf v :: .int i :: va_rf x :: st) σ := by
  intro H locs ls hR hL hls
  obtain ⟨rfl, rfl⟩ := dn_some hx
  obtain ⟨hin, rfl⟩ := ix_some hi
  have hat := rep_at hR hk.2
  have hc := hat.2.2.2.2 hk.1
  have hG := cx.2.2.2.2.2.1
  obtain ⟨hecl, C, T, N, hcl, hty⟩ := ecl_at hk.1 hk.2
  have hgo : ∀ H1 : Heap, H1[a]? = some ((arrV (gA Γ (hpK σ a)) (hpL σ a) (fun j => va_rf (hpB σ a j))).setSlot i.toNatClampNeg (va_rf v)) → H1.size = H.size → (∀ q, q ≠ a → H1[q]? = H[q]?) → W p l e R s m args below meth c H1 (locs ++ [⟨a, i.toNatClampNeg⟩]) R.cells R.slots Q (F0 m (pc + 1) ls st) := by
    intro H1 e1 e2 e3
    rw [arrV_store, updV_ref] at e1
    exact h H1 _ ls (rep_putA (σ1 := stB σ a i.toNatClampNeg v) hR (by omega) rfl rfl rfl (fun _ => rfl) (fun _ => rfl) (fun _ => rfl) (fun _ _ _ => rfl) (fun _ _ _ => rfl) (fun b j hb => by rw [hpB_stB, if_neg (fun q => hb q.1)]) hc e1 (fun q => by omega) (fun _ => rfl) e2 e3) (loc_app hL hat.1) hls
  have harr := gl_arr hG (by omega : 12 ≤ hpK σ a) hk.2
  rw [hty] at harr
  cases v with
  | none => exact va_WaastN (C := C) cx.1 cx.2.1 hc (harr.1 _ _) (fun q => by cases q) (by rw [arrV_size]; exact hin) rfl rfl hd hgo
  | some b =>
    have hkb := (dm_some hv).2 b rfl
    obtain ⟨cellV, g1, g2, g3, -⟩ := (rep_at hR (by omega : hpK σ b < 20)).2.2.1 (by omega)
    rw [hkb] at g2
    have hcls := (hG.1.1 (ecl (hpK σ a)) _ hcl).2
    obtain ⟨kA, comp, k1, k2, k3, -⟩ := harr.2
    have hcomp : comp = (gD Γ).1 (ecl (hpK σ a)) := Option.some.inj (k3.symm.trans hcls.1)
    subst hcomp
    obtain ⟨kC, hkC, -⟩ := hcls.2
    exact W.aast cx.1 cx.2.1 hc (fun q h => by cases h) (fun h => by cases h) k1 k2 rfl hkC ⟨fun q => hin (Or.inl q), by show _ < (arrV _ _ _).slots.size; rw [arrV_size]; exact Nat.not_le.mp fun q => hin (Or.inr q)⟩ g1 (fun q h => by rw [g3] at h; cases h) (by rw [g2]; exact hkC) (by rw [g2]; exact va_assign hcls) rfl rfl hd hgo
/-- the state behind a new cell -/
theorem rep_new {H : Heap} {k len sz : Nat} {x : Cell} (hR : RepH Γ σ H) (hk : k < 20) (hsz : x.slots.size = sz) (hb1 : hpC σ + 1 ≤ NX) (hb2 : hpS σ + sz ≤ SX) (hc : CellAt Γ (nw σ k len sz) (H.push x) (hpN σ)) : RepH Γ (nw σ k len sz) (H.push x) := by
  obtain ⟨r1, r2, r3, r4, r5, r6, r7, r8, r9⟩ := hR
  have hold : ∀ q : Nat, q < hpN σ → (H.push x)[q]? = H[q]? := fun q hq => by
    rw [Array.getElem?_push, if_neg (by omega)]
  refine ⟨by rw [Array.size_push, hpN_nw, r1], by rw [hpN_nw, hpC_nw]; omega, fun b hb => by rw [hold b (by omega)]; exact r3 b hb, ?_, fun b hb => ?_, fun b hb => ?_, fun i => r7 i, by rw [hpC_nw]; exact hb1, by rw [hpS_nw]; exact hb2⟩
  · rw [hsz_push (by omega), r4, hsz]; rfl
  · by_cases hbn : b = hpN σ
    · subst hbn
      exact ⟨by omega, by rw [hpN_nw]; omega, hc⟩
    · rw [hpK_nw, if_neg hbn] at hb
      obtain ⟨b1, b2, b3⟩ := r5 b hb
      refine ⟨b1, by rw [hpN_nw]; omega, ?_⟩
      unfold CellAt
      simp only [hpK_nw, hpL_nw, hpA_nw, hpB_nw, if_neg hbn]
      refine ⟨fun h => ((b3.1 h).kept (hold b b2)).to (fun j _ => ?_), fun h => ?_, fun h => ?_⟩
      · simp only [oV, hpI_nw, hpR_nw, hpJ_nw, if_neg hbn]
      · rw [hold b b2]; exact b3.2.1 h
      · rw [hold b b2]; exact b3.2.2 h
  · by_cases hbn : b = hpN σ
    · rw [hpK_nw, if_pos hbn] at hb; omega
    · rw [hpK_nw, if_neg hbn] at hb
      obtain ⟨f, f1, f2⟩ := r6 b hb
      simp only [hpL_nw, hpA_nw, if_neg hbn]
      exact ⟨f, f1, f2⟩
/-- 'new' of class ci -/
def NWc (own : String) (idx ci : Nat) : Prop := ∃ (C : String) (T : u_T) (N : Nat) (ty : Nat → FieldType), (vwCl[ci]? = some (C, T, N) ∧ ci < 12 ∧ nfl ci = N) ∧ (∀ w ∈ u_ws C T N, w ∈ TBL) ∧ (Cond.classLink own idx C ∈ TBL ∧ Cond.instantiable C N ∈ TBL ∧ Cond.initialized C ∈ TBL) ∧ (∀ k, k < N → parseFieldDescriptor (T k).2.2.1 = some (ty k)) ∧ ∀ k, k < N → defaultValue (ty k) = (match fty ci k with | 0 => Value.int 0 | 1 => .null | _ => .long 0)
theorem k_new (cx : Cx p R s m args c Γ nL σ0 cc own) {idx ci : Nat} {σ1 : St} (hn : NWc own idx ci) (hw : nwO σ ci = some σ1) (hd : decode cc pc = .ok (.new idx, 3)) (h : Ok p l e R s m args below meth c Γ nL Q (pc + 3) L (va_rf (some (hpN σ)) :: st) σ1) : Ok p l e R s m args below meth c Γ nL Q pc L st σ := by
  intro H locs ls hR hL hls
  obtain ⟨⟨hb1, hb2⟩, rfl⟩ := nwO_some hw
  obtain ⟨C, T, N, ty, ⟨hc, hci, hN⟩, hin, ⟨hl1, hl2, hl3⟩, hty, hdv⟩ := hn
  have hts := cx.2.2.2.2.1
  intro T0 hT X
  obtain ⟨X1, m1, m2⟩ := st_tight cx.2.2.2.2.2.2.1 hR hT X
  have hrc := cx.2.2.2.2.2.2.2
  refine W.newc cx.1 cx.2.1 cx.2.2.2.1 (hts _ hl1) (hts _ hl2) (hts _ hl3) (g := F0 m pc ls st) rfl hd (by omega) (by omega) (fun cC kC f1 f2 f3 f4 => ?_) T0 hT X1
  refine W.widen (k := R.cells) (n := R.slots) (by omega) (by omega) ?_
  have hKn := cx.2.2.2.2.2.1.1.1 ci _ hc
  have hcc : (gD Γ).1 ci = cC := Option.some.inj (hKn.2.1.symm.trans f1)
  have hHn : H.size = hpN σ := hR.1
  rw [hHn]
  refine h _ locs ls (rep_new hR (by omega) (by rw [hN]; simpa using f4) hb1 hb2 ?_) hL hls
  have hKat : hpK (nw σ ci 0 (nfl ci)) (hpN σ) = ci := by rw [hpK_nw, if_pos rfl]
  refine ⟨fun _ => ?_, fun h9 => ?_, fun h9 => ?_⟩
  · rw [hKat, hN]
    have hcell : (H.push { cls := cC, slots := kC.instanceTypes.map defaultValue, vm := .none })[hpN σ]? = some (blank ((gD Γ).1 ci) kC) := by
      rw [← hHn, hcc]; simp [blank]
    refine (u_born ty hts hin hKn (by rw [hcc]; exact f2) hcell hty).to (fun j hj => ?_)
    rw [hdv j hj]
    simp only [oV, hpI_nw, hpR_nw, hpJ_nw, if_pos]
    rfl
  · rw [hKat] at h9; omega
  · rw [hKat] at h9; omega
theorem k_newarr (cx : Cx p R s m args c Γ nL σ0 cc own) {atype : ArrayType} {k : Nat} {n : Int32} {σ1 : St} (hk : (k = 12 ∧ atype = .byte) ∨ (k = 13 ∧ atype = .int)) (hw : nwA σ k n = some σ1) (hc : Cond.arrayClass (newarray.typeOf atype) ∈ TBL) (hd : decode cc pc = .ok (.newarray atype, 2)) (h : Ok p l e R s m args below meth c Γ nL Q (pc + 2) L (va_rf (some (hpN σ)) :: st) σ1) : Ok p l e R s m args below meth c Γ nL Q pc L (.int n :: st) σ := by
  intro H locs ls hR hL hls
  obtain ⟨hn0, hn1, ⟨hb1, hb2⟩, rfl⟩ := nwA_some hw
  have hts := cx.2.2.2.2.1
  intro T0 hT X
  obtain ⟨X1, m1, m2⟩ := st_tight cx.2.2.2.2.2.2.1 hR hT X
  have hrc := cx.2.2.2.2.2.2.2
  have hcb : componentBytes (newarray.typeOf atype) ≤ 4 := by rcases hk with ⟨-, rfl⟩ | ⟨-, rfl⟩ <;> decide
  refine W.newa cx.1 cx.2.1 (hts _ hc) (g := F0 m pc ls (.int n :: st)) rfl hd rfl hn0 (Nat.le_trans (Nat.mul_le_mul hn1 hcb) (by omega)) (by omega) (by omega) (fun cA kA comp f1 f2 f3 => ?_) T0 hT X1
  refine W.widen (k := R.cells) (n := R.slots) (by omega) (by omega) ?_
  have hk12 : 12 ≤ k ∧ k < 14 := by omega
  have hra := (gl_arr cx.2.2.2.2.2.1 (k := k) (by omega) (by omega)).2
  have hcA : gA Γ k = cA := by
    rcases hk with ⟨rfl, rfl⟩ | ⟨rfl, rfl⟩ <;> exact Option.some.inj (hra.symm.trans f1)
  have hHn : H.size = hpN σ := hR.1
  rw [hHn]
  refine h _ locs ls (rep_new hR (by omega) (by simp) hb1 hb2 ?_) hL hls
  have hKat : hpK (nw σ k n.toNatClampNeg n.toNatClampNeg) (hpN σ) = k := by rw [hpK_nw, if_pos rfl]
  refine ⟨fun h9 => ?_, fun _ => ?_, fun h9 => ?_⟩
  · rw [hKat] at h9; omega
  · rw [hKat, hpL_nw, if_pos rfl]
    simp only [hpA_nw, if_pos]
    rw [← hHn, Array.getElem?_push_size, hcA]
    rcases hk with ⟨rfl, rfl⟩ | ⟨rfl, rfl⟩ <;> exact congrArg some (arrV_new _ _ _)
  · rw [hKat] at h9; omega
theorem k_anew (cx : Cx p R s m args c Γ nL σ0 cc own) {idx k : Nat} {n : Int32} {C : String} {σ1 : St} (hk : 14 ≤ k ∧ k < 20) (hC : aty k = .object C) (hl : Cond.classLink own idx C ∈ TBL) (hw : nwA σ k n = some σ1) (hd : decode cc pc = .ok (.anewarray idx, 3)) (h : Ok p l e R s m args below meth c Γ nL Q (pc + 3) L (va_rf (some (hpN σ)) :: st) σ1) : Ok p l e R s m args below meth c Γ nL Q pc L (.int n :: st) σ := by
  intro H locs ls hR hL hls
  obtain ⟨hn0, hn1, ⟨hb1, hb2⟩, rfl⟩ := nwA_some hw
  have hts := cx.2.2.2.2.1
  intro T0 hT X
  obtain ⟨X1, m1, m2⟩ := st_tight cx.2.2.2.2.2.2.1 hR hT X
  have hrc := cx.2.2.2.2.2.2.2
  refine W.anew cx.1 cx.2.1 cx.2.2.2.1 (hts _ hl) (va_AO.use (cx.2.2.2.2.2.1.2.2.2.1 k hk.1 hk.2 C hC)) (g := F0 m pc ls (.int n :: st)) rfl hd rfl hn0 (by omega) (by omega) (by omega) (fun cA kA comp f1 f2 f3 f4 => ?_) T0 hT X1
  refine W.widen (k := R.cells) (n := R.slots) (by omega) (by omega) ?_
  have hra := (gl_arr cx.2.2.2.2.2.1 (k := k) (by omega) (by omega)).2
  rw [hC] at hra
  obtain ⟨_, _, _, _, _, hra5⟩ := hra
  have hcA : gA Γ k = cA := Option.some.inj (hra5.symm.trans f1)
  have hHn : H.size = hpN σ := hR.1
  rw [hHn]
  refine h _ locs ls (rep_new hR (by omega) (by simp) hb1 hb2 ?_) hL hls
  have hKat : hpK (nw σ k n.toNatClampNeg n.toNatClampNeg) (hpN σ) = k := by rw [hpK_nw, if_pos rfl]
  refine ⟨fun h9 => ?_, fun h9 => ?_, fun _ => ?_⟩
  · rw [hKat] at h9; omega
  · rw [hKat] at h9; omega
  · rw [hKat, hpL_nw, if_pos rfl]
    simp only [hpB_nw, if_pos]
    rw [← hHn, Array.getElem?_push_size, hcA]
    exact congrArg some (arrV_new _ _ _)
end OKA

theorem cls_start {s : State} {args : Array Value} (hts : ∀ w ∈ lw_tbl, w.before args s = true) : ∃ D : va_G, ∀ (c : Nat) (q : vw_C), vwCl[c]? = some q → u_Kn s q.1 q.2.1 q.2.2 (D.1 c) (D.2 c) := by
  obtain ⟨w0, w1, w2, w3, w4, w5, w6, w7, w8, w9, w10⟩ := lt_ia
  obtain ⟨c0, i0, k0⟩ := u_known (C := RX0) (T := TX0) (N := 2) (n := 2) hts li_X0 (hts _ w0)
  obtain ⟨c1, i1, k1⟩ := u_known (C := RX1) (T := TX1) (N := 9) (n := 9) hts li_X1 (hts _ w1)
  obtain ⟨c2, i2, k2⟩ := u_known (C := RX2) (T := TX2) (N := 4) (n := 4) hts li_X2 (hts _ w2)
  obtain ⟨c3, i3, k3⟩ := u_known (C := RX3) (T := TX3) (N := 5) (n := 5) hts li_X3 (hts _ w3)
  obtain ⟨c4, i4, k4⟩ := u_known (C := RX4) (T := TX4) (N := 5) (n := 5) hts li_X4 (hts _ w4)
  obtain ⟨c5, i5, k5⟩ := u_known (C := RX5) (T := TX5) (N := 3) (n := 3) hts li_X5 (hts _ w5)
  obtain ⟨c6, i6, k6⟩ := u_known (C := RX6) (T := TX6) (N := 9) (n := 9) hts li_X6 (hts _ w6)
  obtain ⟨c7, i7, k7⟩ := u_known (C := RX7) (T := TX7) (N := 3) (n := 3) hts li_X7 (hts _ w7)
  obtain ⟨c8, i8, k8⟩ := u_known (C := RX8) (T := TX8) (N := 2) (n := 2) hts li_X8 (hts _ w8)
  obtain ⟨c9, i9, k9⟩ := u_known (C := RX9) (T := TX9) (N := 5) (n := 5) hts li_X9 (hts _ w9)
  obtain ⟨c10, i10, k10⟩ := u_known (C := RX10) (T := TX10) (N := 5) (n := 5) hts li_X10 (hts _ w10)
  refine ⟨(fun k => if k = 0 then c0 else if k = 1 then c1 else if k = 2 then c2 else if k = 3 then c3 else if k = 4 then c4 else if k = 5 then c5 else if k = 6 then c6 else if k = 7 then c7 else if k = 8 then c8 else if k = 9 then c9 else c10, fun k => if k = 0 then i0 else if k = 1 then i1 else if k = 2 then i2 else if k = 3 then i3 else if k = 4 then i4 else if k = 5 then i5 else if k = 6 then i6 else if k = 7 then i7 else if k = 8 then i8 else if k = 9 then i9 else i10), ?_⟩
  intro k q hq
  match k, hq with
  | 0, hq => cases hq; exact k0
  | 1, hq => cases hq; exact k1
  | 2, hq => cases hq; exact k2
  | 3, hq => cases hq; exact k3
  | 4, hq => cases hq; exact k4
  | 5, hq => cases hq; exact k5
  | 6, hq => cases hq; exact k6
  | 7, hq => cases hq; exact k7
  | 8, hq => cases hq; exact k8
  | 9, hq => cases hq; exact k9
  | 10, hq => cases hq; exact k10
  | k + 11, hq => simp [vwCl] at hq
theorem arr_start {s : State} {args : Array Value} (hts : ∀ w ∈ lw_tbl, w.before args s = true) : ∃ A : Nat → ClassId, ∀ k, 12 ≤ k → k < 20 → ArrOfT s (A k) (aty k) ∧ va_RA s (A k) (aty k) := by
  obtain ⟨a12, h12⟩ := arc_byte (hts _ (tb_lw ac_byte))
  obtain ⟨a13, h13⟩ := arc_int (hts _ (tb_lw ac_int))
  obtain ⟨a14, h14⟩ := arc_obj (hts _ (lt_ao RX2 (by decide)))
  obtain ⟨a15, h15⟩ := arc_obj (hts _ (lt_ao RX3 (by decide)))
  obtain ⟨a16, h16⟩ := arc_obj (hts _ (lt_ao RX4 (by decide)))
  obtain ⟨a17, h17⟩ := arc_obj (hts _ (lt_ao RX5 (by decide)))
  obtain ⟨a18, h18⟩ := arc_obj (hts _ (lt_ao RX6 (by decide)))
  obtain ⟨a19, h19⟩ := arc_obj (hts _ (lt_ao RX7 (by decide)))
  refine ⟨fun k => if k = 12 then a12 else if k = 13 then a13 else if k = 14 then a14 else if k = 15 then a15 else if k = 16 then a16 else if k = 17 then a17 else if k = 18 then a18 else a19, fun k k1 k2 => ?_⟩
  rcases (by omega : k = 12 ∨ k = 13 ∨ k = 14 ∨ k = 15 ∨ k = 16 ∨ k = 17 ∨ k = 18 ∨ k = 19) with q | q | q | q | q | q | q | q <;> subst q
  · exact h12
  · exact h13
  · exact h14
  · exact h15
  · exact h16
  · exact h17
  · exact h18
  · exact h19
/-- the tables and the heap at the law's entry -/
theorem glob_start {s : State} {b L : Nat} {xs : Nat → Int32} (hts : ∀ w ∈ lw_tbl, w.before #[Value.ref b] s = true) (hX : va_X b L xs s s.heap) (hgv : (Jvm.Cond.and given_1 narrow_1).before #[Value.ref b] s = true) : ∃ (Γ : GE) (σ : St), gB Γ = s.heap.size ∧ Glob Γ s ∧ RepH Γ σ s.heap ∧ hpC σ = 0 ∧ hpS σ = 0 ∧ b < hpN σ ∧ hpK σ b = 20 ∧ hpL σ b = L ∧ G0 σ ∧ Gs (hpN σ) σ := by
  have hs := flat_of_before _ hgv
  have hb : IA s b L xs := hX
  obtain ⟨D, hD⟩ := cls_start hts
  obtain ⟨A, hA⟩ := arr_start hts
  obtain ⟨t0, e0, I0⟩ := st_IA (f := fun j => zI (sIn j)) (N := 5) (by decide) (hs _ (nf_s1 "AT_FIRST" (by decide)).1) (hs _ (nf_s1 "AT_FIRST" (by decide)).2) (fun j hj => hs _ (nf_s2 j hj).1)
  obtain ⟨t1, e1, I1⟩ := st_IA (f := fun j => zI (sLo j)) (N := 5) (by decide) (hs _ (nf_s1 "LEAST" (by decide)).1) (hs _ (nf_s1 "LEAST" (by decide)).2) (fun j hj => hs _ (nf_s2 j hj).2.1)
  obtain ⟨t2, e2, I2⟩ := st_IA (f := fun j => zI (sHi j)) (N := 5) (by decide) (hs _ (nf_s1 "GREATEST" (by decide)).1) (hs _ (nf_s1 "GREATEST" (by decide)).2) (fun j hj => hs _ (nf_s2 j hj).2.2)
  have hfr : ∀ a : Nat, a < s.heap.size → ¬ s.heap.size ≤ a := fun a h => by omega
  obtain ⟨adK, adV, hK, hKe⟩ := vk_Sof (s := s) (args := #[Value.ref b]) (N := 5) (tm := tmS) (len := strLen) (byt := strByt) (A := fun q => s.heap.size ≤ q) (by decide) (fun i hi => hs _ (nf_t1 i hi).1) (fun i hi => hs _ (nf_t1 i hi).2.1) (fun i hi => hs _ (nf_t1 i hi).2.2.1) (fun i hi => hs _ (nf_t1 i hi).2.2.2) (fun i hi j hj => hs _ (nf_t2 i hi j hj)) (fun i j hi hj q => (nf_t3 i hi j hj q).imp (fun h => hs _ h) (fun h => hs _ h)) hfr
  have hS : ∀ a, a ∈ [t0, t1, t2, b] → ∃ N f, IA s a N f := by
    intro a ha
    simp only [List.mem_cons, List.not_mem_nil, or_false] at ha
    rcases ha with q | q | q | q <;> subst q
    · exact ⟨_, _, I0⟩
    · exact ⟨_, _, I1⟩
    · exact ⟨_, _, I2⟩
    · exact ⟨_, _, hb⟩
  have m0 : t0 ∈ [t0, t1, t2, b] := by simp
  have m1 : t1 ∈ [t0, t1, t2, b] := by simp
  have m2 : t2 ∈ [t0, t1, t2, b] := by simp
  have m3 : b ∈ [t0, t1, t2, b] := by simp
  obtain ⟨Γ, hΓ⟩ : ∃ Γ : GE, Γ = (s.heap.size, s.heap, D, A, gN0 s.heap [t0, t1, t2, b], (fun i => if i = 0 then t0 else if i = 1 then t1 else t2), adK, adV) := ⟨_, rfl⟩
  have g1 : gB Γ = s.heap.size := by rw [hΓ]; rfl
  have g2 : gH Γ = s.heap := by rw [hΓ]; rfl
  have g3 : gN Γ = gN0 s.heap [t0, t1, t2, b] := by rw [hΓ]; rfl
  have g4 : gT Γ = fun i => if i = 0 then t0 else if i = 1 then t1 else t2 := by rw [hΓ]; rfl
  have g5 : gK Γ = adK := by rw [hΓ]; rfl
  have g6 : gV Γ = adV := by rw [hΓ]; rfl
  have g7 : gA Γ = A := by rw [hΓ]; rfl
  have g8 : gD Γ = D := by rw [hΓ]; rfl
  obtain ⟨k0, l0, a0⟩ := sg0_IA (G := gT Γ) I0 m0
  obtain ⟨k1, l1, a1⟩ := sg0_IA (G := gT Γ) I1 m1
  obtain ⟨k2, l2, a2⟩ := sg0_IA (G := gT Γ) I2 m2
  obtain ⟨k3, l3, -⟩ := sg0_IA (G := gT Γ) hb m3
  have G_0 : hpG (sg0 s.heap [t0, t1, t2, b] (gT Γ)) 0 = t0 := by show gT Γ 0 = t0; rw [g4]; rfl
  have G_1 : hpG (sg0 s.heap [t0, t1, t2, b] (gT Γ)) 1 = t1 := by show gT Γ 1 = t1; rw [g4]; rfl
  have G_2 : hpG (sg0 s.heap [t0, t1, t2, b] (gT Γ)) 2 = t2 := by show gT Γ 2 = t2; rw [g4]; rfl
  refine ⟨Γ, sg0 s.heap [t0, t1, t2, b] (gT Γ), g1, ?_, sg0_rep hS g1 g2 g3, rfl, rfl, IA_lt hb, k3, l3, ?_, ?_⟩
  · refine ⟨⟨fun c q hq => by rw [g8]; exact hD c q hq, fun k q hk => ?_⟩, fun q hq => va_Nw.of rfl (hts _ (lt_nm q hq)), va_Nw.of rfl (hts _ lt_fl), fun k ka kb C hC => ?_, fun i nm hi => ?_, fun a n f hf => ?_, ⟨?_, fun i tx hi => ?_⟩, ?_, ?_⟩
    · by_cases hk8 : k < 8
      · have e : (tysG Γ)[k]? = some (gA Γ (12 + k), aty (12 + k)) := by
          have := tysG_at Γ (k := 12 + k) (by omega) (by omega)
          rw [show 12 + k - 12 = k from by omega] at this
          exact this
        rw [e] at hk
        cases hk
        rw [g7]
        exact hA (12 + k) (by omega) (by omega)
      · rw [List.getElem?_eq_none (by simp [tysG]; omega)] at hk
        cases hk
    · have hm : C ∈ [RX2, RX3, RX4, RX5, RX6, RX7] := by
        rcases (by omega : k = 14 ∨ k = 15 ∨ k = 16 ∨ k = 17 ∨ k = 18 ∨ k = 19) with q | q | q | q | q | q <;> subst q <;> cases hC <;> simp
      exact va_AO.of (hts _ (lt_ao C hm))
    · rw [g1, g2, g4]
      have hn : nm ∈ stNm := List.mem_of_getElem? hi
      match i, hi with
      | 0, hi => cases hi; exact va_Zof (hts _ (lt_st _ hn)) (hts _ lt_in.1) e0 hfr
      | 1, hi => cases hi; exact va_Zof (hts _ (lt_st _ hn)) (hts _ lt_in.1) e1 hfr
      | 2, hi => cases hi; exact va_Zof (hts _ (lt_st _ hn)) (hts _ lt_in.1) e2 hfr
      | i + 3, hi => simp [stNm] at hi
    · rw [g3] at hf
      rw [g1, g2]
      exact sg0_gN hS hf
    · rw [g1, g2, g5, g6]; exact hK
    · rw [g5]
      have h5 : i < 5 := by
        have := (List.getElem?_eq_some_iff.mp hi).1
        exact this
      have ht : strTx.getD i "" = tx := by rw [List.getD_eq_getElem?_getD, hi]; rfl
      refine vk_R.of (hts _ (by have := lt_sr i h5; rw [ht] at this; exact this)) (hKe i h5)
    · rw [g1, g2]; exact va_Zof (hts _ lt_la.1) (hts _ lt_in.2.1) (va_eqt (hs _ nf_u.1)) hfr
    · rw [g1, g2]
      rcases va_Zqof (hts _ lt_la.2) (hts _ lt_in.2.2) (hs _ nf_u.2) hfr with h | ⟨t, h⟩
      · exact ⟨.null, .inl rfl, h⟩
      · exact ⟨.ref t, .inr ⟨t, rfl⟩, h⟩
  · unfold G0
    rw [G_0]
    exact ⟨IA_lt I0, k0, l0, a0⟩
  · unfold Gs
    rw [G_1, G_2]
    exact ⟨⟨IA_lt I1, k1, l1, a1⟩, IA_lt I2, k2, l2, a2⟩

/-- the empty poem -/
def P00 : PoT := (fun _ => (0, 0, 0, 0, 0, 0, fun _ => 0, fun _ => 0), 0, sIn)
theorem okP00 : okP P00 := ⟨Nat.zero_le _, fun k hk => absurd hk (Nat.not_lt_zero k), by decide, by decide, by decide, by decide, by decide, by decide, by decide⟩
theorem cnN_no {g : Nat → Option Nat} (h : ∀ i, g i = none) : ∀ n, cnN g n = n
  | 0 => rfl
  | n + 1 => by rw [cnN, cnN_no h n, h n, if_pos rfl]
theorem XL_pc {σ : St} {t : Nat} (h : XL σ t) : pC σ t = 1008 ∧ pS σ t = 6912 := by
  obtain ⟨h1, h2, h3, h4, h5, h6⟩ := h
  unfold pC pS
  rw [cnN_no h2.2.2.2, cnN_no h3.2.2.2, cnN_no h4.2.2.2, cnN_no h5.2.2.2]
  exact ⟨rfl, rfl⟩
theorem XA_LA {σ : St} {t f d k n c : Nat} (h : XA σ t f d k n) : LA (fun _ => True) σ t f d k n c :=
  ⟨h.1, h.2.1, h.2.2.1, fun i a _ q => absurd ((h.2.2.2 i).symm.trans q) (by simp), fun i j a _ _ q _ => absurd ((h.2.2.2 i).symm.trans q) (by simp)⟩
theorem XL_LJ {σ : St} {t : Nat} (h : XL σ t) (hN : t + 5 ≤ hpN σ) : LJ (fun _ => True) σ t := by
  obtain ⟨h1, h2, h3, h4, h5, h6⟩ := h
  exact ⟨⟨hN, fun _ _ => trivial⟩, h1, XA_LA h2, XA_LA h3, XA_LA h4, XA_LA h5⟩
theorem XL_LC {σ : St} {t : Nat} (h : XL σ t) : LC σ t P00 (P00.2.2 0) (P00.2.2 1) := by
  obtain ⟨h1, h2, h3, h4, h5, h6⟩ := h
  refine ⟨⟨h6 36 (by decide) (by decide), Nat.zero_le _, fun i hi => absurd hi (Nat.not_lt_zero i), fun i _ => rfl⟩, h6 39 (by decide) (by decide), fun i hi => absurd hi (Nat.not_lt_zero i), ⟨h6 37 (by decide) (by decide), fun i hi => absurd hi (Nat.not_lt_zero i)⟩, ⟨0, 0, h6 38 (by decide) (by decide), h6 40 (by decide) (by decide), ⟨fun i hi => absurd hi (Nat.not_lt_zero i), fun i hi => absurd hi (Nat.not_lt_zero i), fun i hi => absurd hi (Nat.not_lt_zero i), Nat.le_refl _, fun i hi => absurd hi (Nat.not_lt_zero i)⟩, Nat.zero_le _, Nat.zero_le _, fun q => absurd (show (true : Bool) = false from q) (by decide), fun _ => ⟨rfl, rfl, .inr rfl⟩⟩, ⟨h6 38 (by decide) (by decide), Nat.zero_le _⟩, fun i hi => absurd hi (Nat.not_lt_zero i)⟩
theorem XP_PoS {σ : St} {p : Nat} (h : XP σ p) (hN : p + 3 ≤ hpN σ) : PoS σ p := by
  obtain ⟨h1, h2, h3, h4, h5, h6, h7, h8, h9⟩ := h
  exact ⟨h1, hN, h2, h3, h4, h5, h6, h7⟩
theorem XP_PoB {σ : St} {b p : Nat} (h : XP σ p) (hN : p + 3 ≤ hpN σ) : PoB b σ p P00 := by
  obtain ⟨h1, h2, h3, h4, h5, h6, h7, h8, h9⟩ := h
  exact ⟨⟨⟨h1, hN, h2, h3, h4, h5, h6, h7⟩, h8, Nat.zero_le _, fun k hk => absurd hk (Nat.not_lt_zero k), h9⟩, fun k a hk => absurd hk (Nat.not_lt_zero k)⟩
theorem XH_HiB {σ : St} {b h : Nat} (k : XH σ h) (hN : h + 26 ≤ hpN σ) (hb : h + 26 ≤ b) : HiB b σ h (fun _ => P00) 0 := by
  obtain ⟨h1, h2, h3, h4, h5, h6⟩ := k
  exact ⟨⟨h1, h2, h3, h4, hN, hb⟩, h5, Nat.zero_le _, fun i hi => XP_PoS (h6 i hi).2 (by omega), fun i => i, fun i hi => hi, fun i j _ _ q => q, fun i hi => (h6 i hi).1, fun i hi => absurd hi (Nat.not_lt_zero i)⟩
theorem WQ_start {x : Nat} {σ : St} {A G R : Nat → Int32} (hN : hpN σ = x + 45) (k1 : hpK σ x = 10) (k2 : hpR σ 320 x = some (x + 1) ∧ hpR σ 321 x = some (x + 3) ∧ hpR σ 322 x = some (x + 6) ∧ hpR σ 323 x = some (x + 32) ∧ hpR σ 324 x = some (x + 37)) (c : XC σ (x + 1)) (p : XP σ (x + 3)) (h : XH σ (x + 6)) (l1 : XL σ (x + 32)) (l2 : XL σ (x + 37)) (g : Gs x σ) (ha : AR x σ A G R) : WQ x σ (hpC σ + 2016) (hpS σ + 13824) P00 (fun _ => 0) 0 A G R := by
  have e1 := XL_pc l1
  have e2 := XL_pc l2
  obtain ⟨c1, c2, c3, c4, c5⟩ := c
  refine ⟨⟨fun _ => P00, 0, ⟨⟨k1, k2.1, k2.2.1, k2.2.2.1, k2.2.2.2.1, k2.2.2.2.2, by omega⟩, ⟨Nat.zero_le _, c1, c2, c3, c4, c5, fun j hj => absurd hj (Nat.not_lt_zero j), fun j hj => absurd hj (Nat.not_lt_zero j)⟩, XP_PoB p (by omega), XH_HiB h (by omega) (by omega), XL_LJ l1 (by omega), XL_LJ l2 (by omega), ?_, g⟩, XL_LC l1, okP00⟩, ⟨by rw [e1.1, e2.1]; omega, by rw [e1.2, e2.2]; omega⟩, ha⟩
  intro a d i e j d1 d2 f1 f2 hi hj q _
  have hA : ∀ i, hpB σ (x + 32 + d) i = none := by
    obtain ⟨h1, h2, h3, h4, h5, h6⟩ := l1
    have : d = 1 ∨ d = 2 ∨ d = 3 ∨ d = 4 := by omega
    rcases this with z | z | z | z <;> subst z
    · exact h2.2.2.2
    · exact h3.2.2.2
    · exact h4.2.2.2
    · exact h5.2.2.2
  rw [hA i] at q; exact absurd q (by simp)
theorem z_faultS {x u v n : Nat} {σ : St} {P : PoT} {T A G R : Nat → Int32} (W : WQ x σ u v P T n A G R) : f_X10_fault σ x 1 = some (zI (SFl T n)) := by
  obtain ⟨⟨hs, c, K⟩, Rr, hA⟩ := W
  exact k_fault K.1 true
/-- the settings at first -/
theorem b_begins {x u v n : Nat} {σ : St} {P : PoT} {T A G R : Nat → Int32} (W : WQ x σ u v P T n A G R) : ∃ G', f_L_begins σ (some (x + 43)) = some (wA σ (x + 43) G') ∧ ∀ i, i < 5 → G' i = zI (sIn i : Int) := by
  have h := WQ_A W
  have hg : ∀ j : Nat, j < 5 → ∀ F, ix (zI (j : Int)) (hpL (wA σ (x + 43) F) (x + 43)) = some j := fun j hj F => ar_ig (AR_g h F) hj
  have i0 : ix 0 (hpL σ (x + 43)) = some 0 := ar_ig h (j := 0) (by decide)
  have i1 : ∀ F, ix 1 (hpL (wA σ (x + 43) F) (x + 43)) = some 1 := hg 1 (by decide)
  have i2 : ∀ F, ix 2 (hpL (wA σ (x + 43) F) (x + 43)) = some 2 := hg 2 (by decide)
  have i3 : ∀ F, ix 3 (hpL (wA σ (x + 43) F) (x + 43)) = some 3 := hg 3 (by decide)
  have i4 : ∀ F, ix 4 (hpL (wA σ (x + 43) F) (x + 43)) = some 4 := hg 4 (by decide)
  refine ⟨upL (upL (upL (upL (upL G 0 30) 1 12) 2 2) 3 4) 4 6, ?_, fun i hi => ?_⟩
  · rw [f_L_begins, ar_ng h, bnd, i0, bnd, stA_is σ (x + 43) 0 30 h.2.1.2.2, i1, bnd, stA_wA, i2, bnd, stA_wA, i3, bnd, stA_wA, i4, bnd, stA_wA]
  · match i, hi with
    | 0, _ => rfl
    | 1, _ => rfl
    | 2, _ => rfl
    | 3, _ => rfl
    | 4, _ => rfl
/-- THE LAW ANSWERS 1 -/
theorem law_ok {σ : St} {b L : Nat} (hC : hpC σ = 0) (hS : hpS σ = 0) (hb : b < hpN σ) (hk : hpK σ b = 20) (hL : hpL σ b = L) (hL2 : L ≤ 2048) (g0 : G0 σ) (gs : Gs (hpN σ) σ) : ∃ ρ, f_L_law σ (some b) = some ρ ∧ ρ.1 = 1 := by
  have X1 : NX = 600000 := rfl
  have X2 : SX = 7302250 := rfl
  have e1 : nwO σ 10 = some (nw σ 10 0 5) := nwO_ok (by omega) (by show hpS σ + 5 ≤ SX; omega)
  have k1 : hpK (nw σ 10 0 5) (hpN σ) = 10 := by rw [hpK_nw, if_pos rfl]
  have ga : GN (hpN σ) σ (nw σ 10 0 5) := GN_nw _ σ 10 0 5
  obtain ⟨q5, r1, r2, r3, r4, r5, r6, r7, r8, r9, r10, r11, r12⟩ := i_X10 (σ := nw σ 10 0 5) (x := hpN σ) k1 rfl (G0_GN g0 ga (by rw [hpN_nw]; omega) (by have := g0.1; omega)) (by rw [hpC_nw]; omega) (by rw [hpS_nw]; omega)
  rw [hpC_nw] at r3
  rw [hpS_nw] at r4
  have gb : GN (hpN σ) σ q5 := GN_trans ga r5 (by rw [hpN_nw]; omega) (.inl rfl)
  have n7 : nwA q5 13 64 = some (nw q5 13 64 64) := nwA_ok (n := 64) (by decide) (by omega) (by omega)
  have n9 : nwA (nw q5 13 64 64) 13 5 = some (nw (nw q5 13 64 64) 13 5 5) := nwA_ok (n := 5) (by decide) (by rw [hpC_nw]; omega) (by rw [hpS_nw]; omega)
  have n11 : nwA (nw (nw q5 13 64 64) 13 5 5) 13 64 = some (nw (nw (nw q5 13 64 64) 13 5 5) 13 64 64) := nwA_ok (n := 64) (by decide) (by rw [hpC_nw, hpC_nw]; omega) (by rw [hpS_nw, hpS_nw]; omega)
  have e7 : hpN (nw q5 13 64 64) = hpN σ + 43 := by rw [hpN_nw]; omega
  have e9 : hpN (nw (nw q5 13 64 64) 13 5 5) = hpN σ + 44 := by rw [hpN_nw]; omega
  obtain ⟨q11, hq⟩ : ∃ q, q = nw (nw (nw q5 13 64 64) 13 5 5) 13 64 64 := ⟨_, rfl⟩
  have eN : hpN q11 = hpN σ + 45 := by rw [hq, hpN_nw]; omega
  have eC : hpC q11 = 45 := by rw [hq, hpC_nw, hpC_nw, hpC_nw]; omega
  have eS : hpS q11 = 2552 := by rw [hq, hpS_nw, hpS_nw, hpS_nw]; omega
  have sm : ∀ a, a < hpN q5 → sam q5 q11 a := fun a ha => by
    rw [hq]
    exact sam_trans (((GN_nw (hpN q5) q5 13 64 64).1 a ha).2 (by omega)) (sam_trans (((GN_nw (hpN q5) (nw q5 13 64 64) 13 5 5).1 a (by omega)).2 (by omega)) (((GN_nw (hpN q5) (nw (nw q5 13 64 64) 13 5 5) 13 64 64).1 a (by omega)).2 (by omega)))
  have sn : ∀ a, a < hpN σ → sam σ q11 a := fun a ha => sam_trans ((gb.1 a ha).2 (by omega)) (sm a (by omega))
  have gG : ∀ i, hpG q11 i = hpG σ i := fun i => by rw [hq]; exact gb.2 i
  have gs2 : Gs (hpN σ) q11 := by
    obtain ⟨⟨a1, a2, a3, a4⟩, b1, b2, b3, b4⟩ := gs
    have m1 := sn _ a1
    have m2 := sn _ b1
    unfold Gs
    rw [gG 1, gG 2]
    exact ⟨⟨a1, m1.1.trans a2, m1.2.1.trans a3, fun i hi => (m1.2.2.2.1 i).trans (a4 i hi)⟩, b1, m2.1.trans b2, m2.2.1.trans b3, fun i hi => (m2.2.2.2.1 i).trans (b4 i hi)⟩
  have hAR : AR (hpN σ) q11 (fun _ => 0) (fun _ => 0) (fun _ => 0) := by
    rw [hq]
    refine ⟨⟨?_, ?_, fun j => ?_⟩, ⟨?_, ?_, fun j => ?_⟩, ?_, ?_, fun j => ?_⟩
    · rw [hpK_nw, if_neg (by omega), hpK_nw, if_neg (by omega), hpK_nw, if_pos (by omega)]
    · rw [hpL_nw, if_neg (by omega), hpL_nw, if_neg (by omega), hpL_nw, if_pos (by omega)]
    · rw [hpA_nw, if_neg (by omega), hpA_nw, if_neg (by omega), hpA_nw, if_pos (by omega)]
    · rw [hpK_nw, if_neg (by omega), hpK_nw, if_pos (by omega)]
    · rw [hpL_nw, if_neg (by omega), hpL_nw, if_pos (by omega)]
    · rw [hpA_nw, if_neg (by omega), hpA_nw, if_pos (by omega)]
    · rw [hpK_nw, if_pos (by omega)]
    · rw [hpL_nw, if_pos (by omega)]
    · rw [hpA_nw, if_pos (by omega)]
  have mx := sm (hpN σ) (by omega)
  have W0 : WQ (hpN σ) q11 (hpC q11 + 2016) (hpS q11 + 13824) P00 (fun _ => 0) 0 (fun _ => 0) (fun _ => 0) (fun _ => 0) := WQ_start eN (mx.1.trans r6) ⟨(mx.2.2.1 _).trans r7.1, (mx.2.2.1 _).trans r7.2.1, (mx.2.2.1 _).trans r7.2.2.1, (mx.2.2.1 _).trans r7.2.2.2.1, (mx.2.2.1 _).trans r7.2.2.2.2⟩ (XC_tr r8 (fun a a1 a2 => sm a (by omega))) (XP_tr r9 (fun a a1 a2 => sm a (by omega))) (XH_tr r10 (fun a a1 a2 => sm a (by omega))) (XL_tr r11 (fun a a1 a2 => sm a (by omega))) (XL_tr r12 (fun a a1 a2 => sm a (by omega))) gs2 hAR
  rw [eC, eS] at W0
  obtain ⟨G', b1, b2⟩ := b_begins W0
  have W1 := WQ_g W0 G'
  have pa : PA (fun _ => 0) G' P00 := ⟨by decide, rfl, fun k hk => absurd hk (Nat.not_lt_zero k), b2⟩
  have hF : Flt (fun _ => 0) 0 = 0 := by rfl
  have hSF : SFl (fun _ => 0) 0 = 0 := by rfl
  have f1 : f_X10_fault (wA q11 (hpN σ + 43) G') (hpN σ) 0 = some 0 := by rw [z_fault W1, hF]; rfl
  have f2 : f_X10_fault (wA q11 (hpN σ + 43) G') (hpN σ) 1 = some 0 := by rw [z_faultS W1, hSF]; rfl
  obtain ⟨τ1, c1, c2, c3⟩ := z_insertFault W1 (by omega) (by omega) (p := 0) (Nat.zero_le _) (by rw [hF]; decide)
  rw [hF] at c1
  have c1' : f_X10_insert (wA q11 (hpN σ + 43) G') (hpN σ) 0 = some (-2000, τ1) := c1
  obtain ⟨τ2, d1, d2, d3⟩ := z_insertBad c2 (by omega) (by omega) (p := 1) (by decide) (by decide)
  have d1' : f_X10_insert τ1 (hpN σ) 1 = some (-2, τ2) := d1
  obtain ⟨τ3, g1, g2, g3⟩ := z_replaceBad d2 (by omega) (by omega) (p := 0) (Nat.zero_le _) (by decide)
  have g1' : f_X10_replace τ2 (hpN σ) 0 = some (-2, τ3) := g1
  obtain ⟨τ4, h1, h2, h3⟩ := z_removeBad g2 (by omega) (by omega) (p := 0) (Nat.zero_le _) (by decide)
  have h1' : f_X10_remove τ3 (hpN σ) 0 = some (-2, τ4) := h1
  obtain ⟨τ5, j1, j2, j3⟩ := z_toggleBad h2 (by omega) (by omega) (p := 0) (Nat.zero_le _) (by decide) true
  have j1' : f_X10_toggle τ4 (hpN σ) 0 1 = some (-2, τ5) := j1
  obtain ⟨hs5, c5, K⟩ := WQ_Q j2 (by omega) (by omega)
  have hat : f_X10_at τ5 (hpN σ) 0 0 0 = some (-2) := by
    have q := k_at K 0 0 0 (by omega) (by omega) (by omega) (by omega) (by omega) (by omega)
    rw [if_neg (fun y => by have := y.1.2; exact absurd this (by decide))] at q
    exact q
  have hal := b_areLines K (WQ_A j2) pa ⟨Nat.zero_le _, rfl, fun i hi => absurd hi (Nat.not_lt_zero i)⟩
  have pz : PZ (hpN σ) q11 τ5 := PZ_trans (PZ_wA q11 G' (by omega)) (PZ_trans c3 (PZ_trans d3 (PZ_trans g3 (PZ_trans h3 j3))))
  have mb := sn b hb
  have mz := pz b hb
  obtain ⟨ρ, lo⟩ := law_loop hb hL2 12 0 FU _ _ _ τ5 P00 _ _ _ _ rfl (by decide) (by omega) (by omega) j2 pa (mz.1.trans (mb.1.trans hk)) (mz.2.1.trans (mb.2.1.trans hL))
  have lo' : LL_law_122 FU (some b) (some (hpN σ)) (some (hpN σ + 42)) (some (hpN σ + 43)) (some (hpN σ + 44)) 0 τ5 = some (.inr ρ) := lo
  refine ⟨(1, ρ), ?_, rfl⟩
  rw [f_L_law, e1, bnd, dn_eq k1, bnd, r1, bnd, n7, bnd, n9, bnd, n11, bnd, ← hq, e7, e9, r2, b1, bnd, WQ_x W1, bnd, f1, bnd, if_neg nn, f2, bnd, if_neg nn, c1', bnd, if_neg nn, WQ_x c2, bnd, d1', bnd, if_neg nn, WQ_x d2, bnd, g1', bnd, if_neg nn, WQ_x g2, bnd, h1', bnd, if_neg nn, WQ_x h2, bnd, j1', bnd, if_neg nn, WQ_x j2, bnd, hat, bnd, if_neg nn, hal, bnd, if_pos (show ¬ (1 : Int32) = 0 by decide), lo', sb_inr1]

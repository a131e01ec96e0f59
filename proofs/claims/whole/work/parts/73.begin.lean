/-- the empty poem -/
def P00 : PoT := (fun _ => (0, 0, 0, 0, 0, 0, fun _ => 0, fun _ => 0), 0, sIn)
theorem okP00 : okP P00 := ⟨Nat.zero_le _, fun k hk => absurd hk (Nat.not_lt_zero k), by decide, by decide, by decide, by decide, by decide, by decide, by decide⟩
theorem cnN_no {g : Nat → Option Nat} (h : ∀ i, g i = none) : ∀ n, cnN g n = n
  | 0 => rfl
  | n + 1 => by rw [cnN, cnN_no h n, h n, if_pos rfl]
theorem XL_pc {σ : St} {t : Nat} (h : XL σ t) : pC σ t = 1008 ∧ pS σ t = 6912 := by
  obtain ⟨h1, h2, h3, h4, h5, h6⟩ := h
  unfold pC pS
  rw [cnN_no h2.2.2.2, cnN_no h3.2.2.2, cnN_no h4.2.2.2, cnN_no h5.2.2.2]
  exact ⟨rfl, rfl⟩
theorem XA_LA {σ : St} {t f d k n c : Nat} (h : XA σ t f d k n) : LA (fun _ => True) σ t f d k n c :=
  ⟨h.1, h.2.1, h.2.2.1, fun i a _ q => absurd ((h.2.2.2 i).symm.trans q) (by simp), fun i j a _ _ q _ => absurd ((h.2.2.2 i).symm.trans q) (by simp)⟩
theorem XL_LJ {σ : St} {t : Nat} (h : XL σ t) (hN : t + 5 ≤ hpN σ) : LJ (fun _ => True) σ t := by
  obtain ⟨h1, h2, h3, h4, h5, h6⟩ := h
  exact ⟨⟨hN, fun _ _ => trivial⟩, h1, XA_LA h2, XA_LA h3, XA_LA h4, XA_LA h5⟩
theorem XL_LC {σ : St} {t : Nat} (h : XL σ t) : LC σ t P00 (P00.2.2 0) (P00.2.2 1) := by
  obtain ⟨h1, h2, h3, h4, h5, h6⟩ := h
  refine ⟨⟨h6 36 (by decide) (by decide), Nat.zero_le _, fun i hi => absurd hi (Nat.not_lt_zero i), fun i _ => rfl⟩, h6 39 (by decide) (by decide), fun i hi => absurd hi (Nat.not_lt_zero i), ⟨h6 37 (by decide) (by decide), fun i hi => absurd hi (Nat.not_lt_zero i)⟩, ⟨0, 0, h6 38 (by decide) (by decide), h6 40 (by decide) (by decide), ⟨fun i hi => absurd hi (Nat.not_lt_zero i), fun i hi => absurd hi (Nat.not_lt_zero i), fun i hi => absurd hi (Nat.not_lt_zero i), Nat.le_refl _, fun i hi => absurd hi (Nat.not_lt_zero i)⟩, Nat.zero_le _, Nat.zero_le _, fun q => absurd (show (true : Bool) = false from q) (by decide), fun _ => ⟨rfl, rfl, .inr rfl⟩⟩, ⟨h6 38 (by decide) (by decide), Nat.zero_le _⟩, fun i hi => absurd hi (Nat.not_lt_zero i)⟩
theorem XP_PoS {σ : St} {p : Nat} (h : XP σ p) (hN : p + 3 ≤ hpN σ) : PoS σ p := by
  obtain ⟨h1, h2, h3, h4, h5, h6, h7, h8, h9⟩ := h
  exact ⟨h1, hN, h2, h3, h4, h5, h6, h7⟩
theorem XP_PoB {σ : St} {b p : Nat} (h : XP σ p) (hN : p + 3 ≤ hpN σ) : PoB b σ p P00 := by
  obtain ⟨h1, h2, h3, h4, h5, h6, h7, h8, h9⟩ := h
  exact ⟨⟨⟨h1, hN, h2, h3, h4, h5, h6, h7⟩, h8, Nat.zero_le _, fun k hk => absurd hk (Nat.not_lt_zero k), h9⟩, fun k a hk => absurd hk (Nat.not_lt_zero k)⟩
theorem XH_HiB {σ : St} {b h : Nat} (k : XH σ h) (hN : h + 26 ≤ hpN σ) (hb : h + 26 ≤ b) : HiB b σ h (fun _ => P00) 0 := by
  obtain ⟨h1, h2, h3, h4, h5, h6⟩ := k
  exact ⟨⟨h1, h2, h3, h4, hN, hb⟩, h5, Nat.zero_le _, fun i hi => XP_PoS (h6 i hi).2 (by omega), fun i => i, fun i hi => hi, fun i j _ _ q => q, fun i hi => (h6 i hi).1, fun i hi => absurd hi (Nat.not_lt_zero i)⟩
/-- both empty: they hold the same -/
theorem WS_start {x : Nat} {σ : St} (hN : hpN σ = x + 59) (k1 : hpK σ x = 10) (k2 : hpR σ 320 x = some (x + 1) ∧ hpR σ 321 x = some (x + 3) ∧ hpR σ 322 x = some (x + 6) ∧ hpR σ 323 x = some (x + 32) ∧ hpR σ 324 x = some (x + 37)) (c : XC σ (x + 1)) (p : XP σ (x + 3)) (h : XH σ (x + 6)) (l1 : XL σ (x + 32)) (l2 : XL σ (x + 37)) (g : Gs x σ) (m : MR σ (x + 42)) (mi : ∀ f, hpI σ f (x + 42) = 0) (m0 : hpA σ (x + 43) 2040 = zI ((0 : Nat) : Int)) (ms : ∀ i, i < 5 → hpA σ (x + 43) (2041 + i) = zI (sIn i)) : WS x σ (hpC σ + 2016) (hpS σ + 13824) := by
  have e1 := XL_pc l1
  have e2 := XL_pc l2
  obtain ⟨c1, c2, c3, c4, c5⟩ := c
  refine ⟨P00, fun _ => P00, 0, fun _ => 0, 0, (fun f => hpI σ (352 + f) (x + 42), fun a j => hpA σ (x + 42 + 1 + a) j, hpJ σ 377 (x + 42)), ⟨⟨⟨k1, k2.1, k2.2.1, k2.2.2.1, k2.2.2.2.1, k2.2.2.2.2, by omega⟩, ⟨Nat.zero_le _, c1, c2, c3, c4, c5, fun j hj => absurd hj (Nat.not_lt_zero j), fun j hj => absurd hj (Nat.not_lt_zero j)⟩, XP_PoB p (by omega), XH_HiB h (by omega) (by omega), XL_LJ l1 (by omega), XL_LJ l2 (by omega), ?_, g⟩, XL_LC l1, okP00⟩, ⟨by rw [e1.1, e2.1]; omega, by rw [e1.2, e2.2]; omega⟩, m, ij_eq (fun f hf => ?_) rfl (fun a j ha hb => ?_), ⟨⟨fun k hk => absurd hk (Nat.not_lt_zero k), m0, fun i hi => ?_⟩, okP00, ⟨Nat.zero_le _, mi 354, fun i hi => absurd hi (Nat.not_lt_zero i)⟩, Nat.zero_le _, mi 356, fun j hj => absurd hj (Nat.not_lt_zero j), fun j hj => absurd hj (Nat.not_lt_zero j)⟩⟩
  · intro a d i e j d1 d2 f1 f2 hi hj q _
    have hA : ∀ i, hpB σ (x + 32 + d) i = none := by
      obtain ⟨h1, h2, h3, h4, h5, h6⟩ := l1
      have : d = 1 ∨ d = 2 ∨ d = 3 ∨ d = 4 := by omega
      rcases this with z | z | z | z <;> subst z
      · exact h2.2.2.2
      · exact h3.2.2.2
      · exact h4.2.2.2
      · exact h5.2.2.2
    rw [hA i] at q; exact absurd q (by simp)
  · show hpI σ f (x + 42) = hpI σ (352 + (f - 352)) (x + 42)
    rw [show 352 + (f - 352) = f from by omega]
  · show hpA σ a j = hpA σ (x + 42 + 1 + (a - (x + 42) - 1)) j
    rw [show x + 42 + 1 + (a - (x + 42) - 1) = a from by omega]
  · rw [Nat.zero_add]; exact ms i hi
/-- THE LAW ANSWERS 1: every call of every script compares equal -/
theorem law_ok {σ : St} {b L : Nat} (hC : hpC σ = 0) (hS : hpS σ = 0) (hb : b < hpN σ) (hk : hpK σ b = 20) (hL : hpL σ b = L) (hL2 : L ≤ 2048) (g0 : G0 σ) (gs : Gs (hpN σ) σ) : ∃ ρ, f_L_law σ (some b) = some ρ ∧ ρ.1 = 1 := by
  have X1 : NX = 600000 := rfl
  have X2 : SX = 7302250 := rfl
  have e1 : nwO σ 10 = some (nw σ 10 0 5) := nwO_ok (by omega) (by show hpS σ + 5 ≤ SX; omega)
  have k1 : hpK (nw σ 10 0 5) (hpN σ) = 10 := by rw [hpK_nw, if_pos rfl]
  have ga : GN (hpN σ) σ (nw σ 10 0 5) := GN_nw _ σ 10 0 5
  obtain ⟨q5, r1, r2, r3, r4, r5, r6, r7, r8, r9, r10, r11, r12⟩ := i_X10 (σ := nw σ 10 0 5) (x := hpN σ) k1 rfl (G0_GN g0 ga (by rw [hpN_nw]; omega) (by have := g0.1; omega)) (by rw [hpC_nw]; omega) (by rw [hpS_nw]; omega)
  rw [hpC_nw] at r3
  rw [hpS_nw] at r4
  have gb : GN (hpN σ) σ q5 := GN_trans ga r5 (by rw [hpN_nw]; omega) (.inl rfl)
  have e2 : nwO q5 11 = some (nw q5 11 0 26) := nwO_ok (by omega) (by show hpS q5 + 26 ≤ SX; omega)
  have k2 : hpK (nw q5 11 0 26) (hpN q5) = 11 := by rw [hpK_nw, if_pos rfl]
  have gc : GN (hpN q5) q5 (nw q5 11 0 26) := GN_nw _ q5 11 0 26
  obtain ⟨q11, s1, s2, s3, s4, s5, s6, s7, s8, s9, s10⟩ := i_X11 (σ := nw q5 11 0 26) (y := hpN q5) k2 rfl (fun f => by rw [hpI_nw, if_pos rfl]) (by rw [hpC_nw]; omega) (by rw [hpS_nw]; omega)
  rw [hpC_nw] at s3
  rw [hpS_nw] at s4
  have sm : ∀ a, a < hpN q5 → sam q5 q11 a := fun a ha => sam_trans ((gc.1 a ha).2 (by omega)) (s5 a ha)
  have sn : ∀ a, a < hpN σ → sam σ q11 a := fun a ha => sam_trans ((gb.1 a ha).2 (by omega)) (sm a (by omega))
  have gG : ∀ i, hpG q11 i = hpG σ i := fun i => (s6 i).trans (gb.2 i)
  rw [r2] at s2 s7 s8 s9 s10
  have gs2 : Gs (hpN σ) q11 := by
    obtain ⟨⟨a1, a2, a3, a4⟩, b1, b2, b3, b4⟩ := gs
    have m1 := sn _ a1
    have m2 := sn _ b1
    unfold Gs
    rw [gG 1, gG 2]
    exact ⟨⟨a1, m1.1.trans a2, m1.2.1.trans a3, fun i hi => (m1.2.2.2.1 i).trans (a4 i hi)⟩, b1, m2.1.trans b2, m2.2.1.trans b3, fun i hi => (m2.2.2.2.1 i).trans (b4 i hi)⟩
  have mx := sm (hpN σ) (by omega)
  have W : WS (hpN σ) q11 (hpC q11 + 2016) (hpS q11 + 13824) := WS_start (by omega) (mx.1.trans r6) ⟨(mx.2.2.1 _).trans r7.1, (mx.2.2.1 _).trans r7.2.1, (mx.2.2.1 _).trans r7.2.2.1, (mx.2.2.1 _).trans r7.2.2.2.1, (mx.2.2.1 _).trans r7.2.2.2.2⟩ (XC_tr r8 (fun a a1 a2 => sm a (by omega))) (XP_tr r9 (fun a a1 a2 => sm a (by omega))) (XH_tr r10 (fun a a1 a2 => sm a (by omega))) (XL_tr r11 (fun a a1 a2 => sm a (by omega))) (XL_tr r12 (fun a a1 a2 => sm a (by omega))) gs2 s7 s8 s9 s10
  have mb := sn b hb
  obtain ⟨ρ, lo⟩ := law_loop hb hL2 512 0 FU (hpC q11 + 2016) (hpS q11 + 13824) q11 (by omega) (by omega) (by decide) (by omega) (by omega) W (mb.1.trans hk) (mb.2.1.trans hL)
  refine ⟨(1, ρ), ?_, rfl⟩
  rw [f_L_law, e1, bnd, dn_eq k1, bnd, r1, bnd, e2, bnd, dn_eq k2, bnd, s1, bnd, r2, show (0 : Int32) = zI ((0 : Nat) : Int) from rfl, lo, sb_inr1]

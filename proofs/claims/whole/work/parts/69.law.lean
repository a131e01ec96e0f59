theorem lg_cmp0 (r : Int64) : lg_cmp r r = 0 := by
  unfold lg_cmp; simp
theorem boI (w : Int32) : (if w = 0 then some (0 : Int32) else some 1) = some (if (decide (¬ w = 0)) = true then 1 else 0) := by
  by_cases q : w = 0
  · rw [if_pos q, if_neg (by simpa using q)]
  · rw [if_neg q, if_pos (by simpa using q)]
/-- the law's one round -/
theorem law_step {b x L k n u v : Nat} {τ : St} (W : WS x τ u v) (hu : u + 4 ≤ NX) (hv : v + 129 ≤ SX) (hb : b < x) (hk : hpK τ b = 20) (hL : hpL τ b = L) (h : k + 4 ≤ L) (hL2 : L ≤ 2048) : ∃ ρ, LL_law_18 (n + 1) (some b) (some x) (some (x + 42)) (zI (k : Int)) τ = LL_law_18 n (some b) (some x) (some (x + 42)) (zI ((k + 4 : Nat) : Int)) ρ ∧ WS x ρ (u + 4) (v + 129) ∧ PZ x τ ρ := by
  obtain ⟨kx, kt, -⟩ := WS_k W
  have hA : dnA τ (some b) = some b := dnA_eq20 hk
  have e0 : ix (zI (k : Int)) L = some k := ix_l L k (by omega) (by omega)
  have e1 : ix (zI (k : Int) + 1) L = some (k + 1) := by rw [zN_add1]; exact ix_l L (k + 1) (by omega) (by omega)
  have e2 : ix (zI (k : Int) + 2) L = some (k + 2) := by rw [show zI (k : Int) + 2 = zI ((k + 2 : Nat) : Int) from zN_add k 2]; exact ix_l L (k + 2) (by omega) (by omega)
  have e3 : ix (zI (k : Int) + 3) L = some (k + 3) := by rw [show zI (k : Int) + 3 = zI ((k + 3 : Nat) : Int) from zN_add k 3]; exact ix_l L (k + 3) (by omega) (by omega)
  have e4 : zI (k : Int) + 4 = zI ((k + 4 : Nat) : Int) := zN_add k 4
  have hc : ¬ nI L - 4 < zI (k : Int) := by
    intro y
    rw [nI_z, show (4 : Int32) = zI 4 from rfl, zI_sub, zI_lt (by omega) (by omega) (by omega) (by omega)] at y
    omega
  rw [LL_law_18, hA, bnd, hL, if_neg hc, e0, bnd, e4]
  generalize hw : hpA τ b k &&& 31 = w
  by_cases c0 : w = 0
  · rw [if_pos c0]
    obtain ⟨i, hi, i1, i2⟩ := zI_ex (hpA τ b (k + 1))
    obtain ⟨y, ν, ρ, q1, q2, W1, z1, z2, q3⟩ := b_type W hu hv i i1 i2
    rw [e1, bnd, dn_eq kx, bnd, hi, q1, bnd, dnA_eq20 ((z1 b hb).1.trans hk), bnd, (z1 b hb).2.1, hL, e1, bnd, (z1 b hb).2.2 (k + 1), dn_eq q3, bnd, hi, q2, bnd, if_pos rfl, sb_inr1]
    exact ⟨ρ, rfl, W1, PZ_trans z1 z2⟩
  rw [if_neg c0]
  by_cases c1 : w = 1
  · rw [if_pos c1]
    obtain ⟨y, ν, ρ, q1, q2, W1, z1, z2, q3⟩ := b_clear W hu hv 
    rw [dn_eq kx, bnd, q1, bnd, dn_eq q3, bnd, q2, bnd, if_pos rfl, sb_inr1]
    exact ⟨ρ, rfl, W1, PZ_trans z1 z2⟩
  rw [if_neg c1]
  by_cases c2 : w = 2
  · rw [if_pos c2]
    obtain ⟨y, ρ, q1, q2, W1, z1⟩ := b_fault W hu hv (decide (¬ hpA τ b (k + 1) = 0))
    rw [e1, bnd, boI, bnd, dn_eq kx, bnd, q1, bnd, bnd, boI, bnd, dn_eq kt, bnd, q2, bnd, if_pos rfl, sb_inr1]
    exact ⟨ρ, rfl, W1, z1⟩
  rw [if_neg c2]
  by_cases c3 : w = 3
  · rw [if_pos c3]
    obtain ⟨i, hi, i1, i2⟩ := zI_ex (hpA τ b (k + 1))
    obtain ⟨y, ν, ρ, q1, q2, W1, z1, z2, q3⟩ := b_insert W hu hv i i1 i2
    rw [e1, bnd, dn_eq kx, bnd, hi, q1, bnd, dnA_eq20 ((z1 b hb).1.trans hk), bnd, (z1 b hb).2.1, hL, e1, bnd, (z1 b hb).2.2 (k + 1), dn_eq q3, bnd, hi, q2, bnd, if_pos rfl, sb_inr1]
    exact ⟨ρ, rfl, W1, PZ_trans z1 z2⟩
  rw [if_neg c3]
  by_cases c4 : w = 4
  · rw [if_pos c4]
    obtain ⟨i, hi, i1, i2⟩ := zI_ex (hpA τ b (k + 1))
    obtain ⟨y, ν, ρ, q1, q2, W1, z1, z2, q3⟩ := b_replace W hu hv i i1 i2
    rw [e1, bnd, dn_eq kx, bnd, hi, q1, bnd, dnA_eq20 ((z1 b hb).1.trans hk), bnd, (z1 b hb).2.1, hL, e1, bnd, (z1 b hb).2.2 (k + 1), dn_eq q3, bnd, hi, q2, bnd, if_pos rfl, sb_inr1]
    exact ⟨ρ, rfl, W1, PZ_trans z1 z2⟩
  rw [if_neg c4]
  by_cases c5 : w = 5
  · rw [if_pos c5]
    obtain ⟨i, hi, i1, i2⟩ := zI_ex (hpA τ b (k + 1))
    obtain ⟨y, ν, ρ, q1, q2, W1, z1, z2, q3⟩ := b_remove W hu hv i i1 i2
    rw [e1, bnd, dn_eq kx, bnd, hi, q1, bnd, dnA_eq20 ((z1 b hb).1.trans hk), bnd, (z1 b hb).2.1, hL, e1, bnd, (z1 b hb).2.2 (k + 1), dn_eq q3, bnd, hi, q2, bnd, if_pos rfl, sb_inr1]
    exact ⟨ρ, rfl, W1, PZ_trans z1 z2⟩
  rw [if_neg c5]
  by_cases c6 : w = 6
  · rw [if_pos c6]
    obtain ⟨i, hi, i1, i2⟩ := zI_ex (hpA τ b (k + 1))
    obtain ⟨j, hj, j1, j2⟩ := zI_ex (hpA τ b (k + 2))
    obtain ⟨m, hm, m1, m2⟩ := zI_ex (hpA τ b (k + 3))
    obtain ⟨y, ν, ρ, q1, q2, W1, z1, z2, q3⟩ := b_move W hu hv i i1 i2 j j1 j2 m m1 m2
    rw [e1, bnd, e2, bnd, e3, bnd, dn_eq kx, bnd, hi, hj, hm, q1, bnd, dnA_eq20 ((z1 b hb).1.trans hk), bnd, (z1 b hb).2.1, hL, e1, bnd, e2, bnd, e3, bnd, (z1 b hb).2.2 (k + 1), (z1 b hb).2.2 (k + 2), (z1 b hb).2.2 (k + 3), dn_eq q3, bnd, hi, hj, hm, q2, bnd, if_pos rfl, sb_inr1]
    exact ⟨ρ, rfl, W1, PZ_trans z1 z2⟩
  rw [if_neg c6]
  by_cases c7 : w = 7
  · rw [if_pos c7]
    obtain ⟨i, hi, i1, i2⟩ := zI_ex (hpA τ b (k + 1))
    obtain ⟨y, ν, ρ, q1, q2, W1, z1, z2, q3⟩ := b_toggle W hu hv i i1 i2 (decide (¬ hpA τ b (k + 2) = 0))
    rw [e1, bnd, e2, bnd, boI, bnd, dn_eq kx, bnd, hi, q1, bnd, dnA_eq20 ((z1 b hb).1.trans hk), bnd, (z1 b hb).2.1, hL, e1, bnd, e2, bnd, (z1 b hb).2.2 (k + 1), (z1 b hb).2.2 (k + 2), boI, bnd, dn_eq q3, bnd, hi, q2, bnd, if_pos rfl, sb_inr1]
    exact ⟨ρ, rfl, W1, PZ_trans z1 z2⟩
  rw [if_neg c7]
  by_cases c8 : w = 8
  · rw [if_pos c8]
    obtain ⟨i, hi, i1, i2⟩ := zI_ex (hpA τ b (k + 1))
    obtain ⟨j, hj, j1, j2⟩ := zI_ex (hpA τ b (k + 2))
    obtain ⟨y, ρ, q1, q2, W1, z1⟩ := b_line W hu hv i i1 i2 j j1 j2
    rw [e1, bnd, e2, bnd, dn_eq kx, bnd, hi, hj, q1, bnd, bnd, bnd, dn_eq kt, bnd, hi, hj, q2, bnd, if_pos rfl, sb_inr1]
    exact ⟨ρ, rfl, W1, z1⟩
  rw [if_neg c8]
  by_cases c9 : w = 9
  · rw [if_pos c9]
    obtain ⟨i, hi, i1, i2⟩ := zI_ex (hpA τ b (k + 1))
    obtain ⟨j, hj, j1, j2⟩ := zI_ex (hpA τ b (k + 2))
    obtain ⟨y, q1, q2⟩ := b_letter W hu hv i i1 i2 j j1 j2
    rw [e1, bnd, e2, bnd, dn_eq kx, bnd, hi, hj, q1, bnd, bnd, bnd, dn_eq kt, bnd, hi, hj, q2, bnd, if_pos rfl, sb_inr1]
    exact ⟨τ, rfl, WS_le W (by omega) (by omega), PZ_refl x τ⟩
  rw [if_neg c9]
  by_cases c10 : w = 10
  · rw [if_pos c10]
    obtain ⟨i, hi, i1, i2⟩ := zI_ex (hpA τ b (k + 1))
    obtain ⟨j, hj, j1, j2⟩ := zI_ex (hpA τ b (k + 2))
    obtain ⟨y, ν, ρ, q1, q2, W1, z1, z2, q3⟩ := b_set W hu hv i i1 i2 j j1 j2
    rw [e1, bnd, e2, bnd, dn_eq kx, bnd, hi, hj, q1, bnd, dnA_eq20 ((z1 b hb).1.trans hk), bnd, (z1 b hb).2.1, hL, e1, bnd, e2, bnd, (z1 b hb).2.2 (k + 1), (z1 b hb).2.2 (k + 2), dn_eq q3, bnd, hi, hj, q2, bnd, if_pos rfl, sb_inr1]
    exact ⟨ρ, rfl, W1, PZ_trans z1 z2⟩
  rw [if_neg c10]
  by_cases c11 : w = 11
  · rw [if_pos c11]
    obtain ⟨y, ν, ρ, q1, q2, W1, z1, z2, q3⟩ := b_undo W hu hv 
    rw [dn_eq kx, bnd, q1, bnd, dn_eq q3, bnd, q2, bnd, if_pos rfl, sb_inr1]
    exact ⟨ρ, rfl, W1, PZ_trans z1 z2⟩
  rw [if_neg c11]
  by_cases c12 : w = 12
  · rw [if_pos c12]
    obtain ⟨i, hi, i1, i2⟩ := zI_ex (hpA τ b (k + 1))
    obtain ⟨j, hj, j1, j2⟩ := zI_ex (hpA τ b (k + 2))
    obtain ⟨y, ρ, q1, q2, W1, z1⟩ := b_row W hu hv i i1 i2 j j1 j2
    rw [e1, bnd, e2, bnd, dn_eq kx, bnd, hi, hj, q1, bnd, bnd, bnd, dn_eq kt, bnd, hi, hj, q2, bnd, if_pos rfl, sb_inr1]
    exact ⟨ρ, rfl, W1, z1⟩
  rw [if_neg c12]
  by_cases c13 : w = 13
  · rw [if_pos c13]
    obtain ⟨i, hi, i1, i2⟩ := zI_ex (hpA τ b (k + 1))
    obtain ⟨j, hj, j1, j2⟩ := zI_ex (hpA τ b (k + 2))
    obtain ⟨m, hm, m1, m2⟩ := zI_ex (hpA τ b (k + 3))
    obtain ⟨y, ρ, q1, q2, W1, z1⟩ := b_at W hu hv i i1 i2 j j1 j2 m m1 m2
    rw [e1, bnd, e2, bnd, e3, bnd, dn_eq kx, bnd, hi, hj, hm, q1, bnd, bnd, bnd, bnd, dn_eq kt, bnd, hi, hj, hm, q2, bnd, if_pos rfl, sb_inr1]
    exact ⟨ρ, rfl, W1, z1⟩
  rw [if_neg c13]
  by_cases c14 : w = 14
  · rw [if_pos c14]
    obtain ⟨i, hi, i1, i2⟩ := zI_ex (hpA τ b (k + 1))
    obtain ⟨j, hj, j1, j2⟩ := zI_ex (hpA τ b (k + 2))
    obtain ⟨y, ρ, q1, q2, W1, z1⟩ := b_page W hu hv i i1 i2 j j1 j2
    rw [e1, bnd, e2, bnd, dn_eq kx, bnd, hi, hj, q1, bnd, bnd, bnd, dn_eq kt, bnd, hi, hj, q2, bnd, if_pos rfl, sb_inr1]
    exact ⟨ρ, rfl, W1, z1⟩
  rw [if_neg c14]
  by_cases c15 : w = 15
  · rw [if_pos c15]
    obtain ⟨i, hi, i1, i2⟩ := zI_ex (hpA τ b (k + 1))
    obtain ⟨y, ρ, q1, q2, W1, z1⟩ := b_distance W hu hv i i1 i2
    rw [e1, bnd, dn_eq kx, bnd, hi, q1, bnd, bnd, dn_eq kt, bnd, hi, q2, bnd, if_pos rfl, sb_inr1]
    exact ⟨ρ, rfl, W1, z1⟩
  rw [if_neg c15]
  by_cases c16 : w = 16
  · rw [if_pos c16]
    obtain ⟨i, hi, i1, i2⟩ := zI_ex (hpA τ b (k + 1))
    obtain ⟨y, ρ, q1, q2, W1, z1⟩ := b_shape W hu hv i i1 i2
    rw [e1, bnd, dn_eq kx, bnd, hi, q1, bnd, bnd, dn_eq kt, bnd, hi, q2, bnd, if_pos rfl, sb_inr1]
    exact ⟨ρ, rfl, W1, z1⟩
  rw [if_neg c16]
  by_cases c17 : w = 17
  · rw [if_pos c17]
    obtain ⟨i, hi, i1, i2⟩ := zI_ex (hpA τ b (k + 1))
    obtain ⟨y, ν, ρ, q1, q2, W1, z1, z2, q3⟩ := b_bestWidth W hu hv i i1 i2
    rw [e1, bnd, dn_eq kx, bnd, hi, q1, bnd, dnA_eq20 ((z1 b hb).1.trans hk), bnd, (z1 b hb).2.1, hL, e1, bnd, (z1 b hb).2.2 (k + 1), dn_eq q3, bnd, hi, q2, bnd, if_pos rfl, sb_inr1]
    exact ⟨ρ, rfl, W1, PZ_trans z1 z2⟩
  rw [if_neg c17]
  by_cases c18 : w = 18
  · rw [if_pos c18]
    obtain ⟨i, hi, i1, i2⟩ := zI_ex (hpA τ b (k + 1))
    obtain ⟨y, ν, ρ, q1, q2, W1, z1, z2, q3⟩ := b_leastHeight W hu hv i i1 i2
    rw [e1, bnd, dn_eq kx, bnd, hi, q1, bnd, dnA_eq20 ((z1 b hb).1.trans hk), bnd, (z1 b hb).2.1, hL, e1, bnd, (z1 b hb).2.2 (k + 1), dn_eq q3, bnd, hi, q2, bnd, if_pos rfl, sb_inr1]
    exact ⟨ρ, rfl, W1, PZ_trans z1 z2⟩
  rw [if_neg c18]
  by_cases c19 : w = 19
  · rw [if_pos c19]
    obtain ⟨i, hi, i1, i2⟩ := zI_ex (hpA τ b (k + 1))
    obtain ⟨y, ρ, q1, q2, W1, z1⟩ := b_count W hu hv i i1 i2
    rw [e1, bnd, dn_eq kx, bnd, hi, q1, bnd, bnd, dn_eq kt, bnd, hi, q2, bnd, if_pos rfl, sb_inr1]
    exact ⟨ρ, rfl, W1, z1⟩
  rw [if_neg c19]
  by_cases c20 : w = 20
  · rw [if_pos c20]
    obtain ⟨y, ρ, q1, q2, W1, z1⟩ := b_digest W hu hv
    rw [dn_eq kx, bnd, q1, bnd, dn_eq kt, bnd, q2, bnd, if_pos (lg_cmp0 y), sb_inr1]
    exact ⟨ρ, rfl, W1, z1⟩
  rw [if_neg c20]
  rw [sb_inr1]
  exact ⟨τ, rfl, WS_le W (by omega) (by omega), PZ_refl x τ⟩
/-- the law's loop runs through, and every call compares equal -/
theorem law_loop {b x L : Nat} (hb : b < x) (hL2 : L ≤ 2048) : ∀ (d k n u v : Nat) (τ : St), L ≤ k + 4 * d + 3 → k ≤ L + 3 → d < n → u + 4 * d ≤ NX → v + 129 * d ≤ SX → WS x τ u v → hpK τ b = 20 → hpL τ b = L → ∃ ρ, LL_law_18 n (some b) (some x) (some (x + 42)) (zI (k : Int)) τ = some (.inr ρ) := by
  intro d
  induction d with
  | zero =>
    intro k n u v τ h1 h2 h3 h4 h5 W hk hL
    obtain ⟨n, rfl⟩ : ∃ f1, n = f1 + 1 := ⟨n - 1, by omega⟩
    have hc : nI L - 4 < zI (k : Int) := by
      rw [nI_z, show (4 : Int32) = zI 4 from rfl, zI_sub, zI_lt (by omega) (by omega) (by omega) (by omega)]
      omega
    rw [LL_law_18, dnA_eq20 hk, bnd, hL, if_pos hc]
    exact ⟨τ, rfl⟩
  | succ d ih =>
    intro k n u v τ h1 h2 h3 h4 h5 W hk hL
    obtain ⟨n, rfl⟩ : ∃ f1, n = f1 + 1 := ⟨n - 1, by omega⟩
    by_cases q : k + 4 ≤ L
    · obtain ⟨ρ, e, W1, z⟩ := law_step (n := n) W (by omega) (by omega) hb hk hL q hL2
      rw [e]
      exact ih (k + 4) n (u + 4) (v + 129) ρ (by omega) (by omega) (by omega) (by omega) (by omega) W1 ((z b hb).1.trans hk) ((z b hb).2.1.trans hL)
    · have hc : nI L - 4 < zI (k : Int) := by
        rw [nI_z, show (4 : Int32) = zI 4 from rfl, zI_sub, zI_lt (by omega) (by omega) (by omega) (by omega)]
        omega
      rw [LL_law_18, dnA_eq20 hk, bnd, hL, if_pos hc]
      exact ⟨τ, rfl⟩

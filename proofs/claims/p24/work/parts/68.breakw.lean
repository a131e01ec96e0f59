-- the law's breaks: words and lines
theorem z10 (k : Nat) : 10 * zI (k : Int) = zI ((10 * k : Nat) : Int) := by
  show zI 10 * zI (k : Int) = _
  rw [zI_mul]; congr 1
theorem zN_addl (a : Nat) (b : Int32) (n : Nat) (h : b = zI (n : Int)) : zI (a : Int) + b = zI ((a + n : Nat) : Int) := by rw [h]; exact zN_add a n
theorem b_words {x W S3 ba k c1 cnt : Nat} {A G : Nat → Int32} {E : Nat → Nat} (hg0 : G 0 = zI (W : Int)) (hg3 : G 3 = zI (S3 : Int)) (hW : 12 ≤ W) (hW2 : W ≤ 60) (hb : ba + S3 ≤ 1000) (hc1 : c1 = min (ba + S3) (W - 6)) (hk : k < 6) (hcnt : A (10 * k) = zI (cnt : Int)) (c3 : cnt ≤ 3) (hE : ∀ i, i < cnt → A (10 * k + 1 + i) = zI (E i : Int) ∧ 1 ≤ E i ∧ E i ≤ 16) (hs : stW E cnt ≤ 64) :
    ∀ (d j f : Nat) (rs : RS) (R : Nat → Int32) (τ : St) (fp : Nat), j + d = cnt → d < f → AR x τ A G R → ER R rs → RB k W c1 rs fp (stW E j) → rs.1 + 3 * d ≤ 60 → rIx (lastR rs) + 3 * d < 16 →
    ∃ R', LL_breaks_119 f (some (x + 42)) (some (x + 43)) (some (x + 44)) (zI (k : Int)) (zI (ba : Int)) (zI (rIx (lastR rs) : Int)) (zI (stW E j : Int)) (zI (j : Int)) τ = some (wA τ (x + 44) R') ∧ ER R' (wordsS W c1 E d j rs) := by
  intro d
  induction d with
  | zero =>
    intro j f rs R τ fp hj hf h e hr h1 h2
    obtain ⟨f, rfl⟩ : ∃ g, f = g + 1 := ⟨f - 1, by omega⟩
    refine ⟨R, ?_, e⟩
    rw [LL_breaks_119, ar_da h, bnd, z10, ar_ia h (by omega), bnd, h.1.2.2 (10 * k), hcnt, if_pos ((zN_le (by omega) (by omega)).mpr (by omega)), wA_self τ (x + 44) R h.2.2.2.2]
  | succ d ih =>
    intro j f rs R τ fp hj hf h e hr h1 h2
    obtain ⟨f, rfl⟩ : ∃ g, f = g + 1 := ⟨f - 1, by omega⟩
    obtain ⟨e1, e2, e3⟩ := hE j (by omega)
    have hst := stW_m E (i := j) (j := cnt) (by omega)
    obtain ⟨fp', w1, w2, w3⟩ := word_ok hr e2 (by omega)
    have wg := word_gr hr e2 e3
    have wF := word_F hr e2 e3
    obtain ⟨⟨r1, r2, r3, r4, r5, r6⟩, r7, r8⟩ := id hr
    obtain ⟨el, ok⟩ := ER_last e r1
    rw [wordsS]
    have cont : ∀ (τ1 : St) (R1 : Nat → Int32) (rs1 : RS), AR x τ1 A G R1 → ER R1 rs1 → 0 < rs1.1 → rLn (lastR rs1) = k → rCo (lastR rs1) + rLe (lastR rs1) ≤ W → fillS W c1 (E j) (stW E j) rs1 = wordS W c1 (E j) (stW E j) rs →
        ∃ R', ((LL_breaks_227 FU (some (x + 42)) (some (x + 43)) (some (x + 44)) (zI (k : Int)) (zI (ba : Int)) (zI (j : Int)) (zI (rIx (lastR rs1) : Int)) (zI (stW E j : Int)) (zI (E j : Int)) τ1).bind fun x98 =>
      LL_breaks_119 f (some (x + 42)) (some (x + 43)) (some (x + 44)) (zI (k : Int)) (zI (ba : Int)) x98.1 (x98.2.1 + 1) (zI (j : Int) + 1) x98.2.2) = some (wA τ1 (x + 44) R') ∧ ER R' (wordsS W c1 E d (j + 1) (wordS W c1 (E j) (stW E j) rs)) := by
      intro τ1 R1 rs1 g1 g2 g3 g4 g5 g6
      obtain ⟨R2, i1, i2⟩ := b_fill (o9 := zI (j : Int)) hg0 hg3 hW hW2 hb hc1 (by omega : k < 16) (E j) (stW E j) FU rs1 R1 τ1 (by simp only [FU]; omega) g1 g2 g3 g4 g5 (by omega) (by rw [g6]; omega) (by rw [g6]; omega)
      rw [g6] at i1 i2
      obtain ⟨R3, j1, j2⟩ := ih (j + 1) f _ R2 (wA τ1 (x + 44) R2) fp' (by omega) (by omega) (AR_r g1 R2) i2 w1 (by omega) (by omega)
      rw [wA_wA] at j1
      refine ⟨R3, ?_, j2⟩
      rw [i1, bnd]
      show LL_breaks_119 f (some (x + 42)) (some (x + 43)) (some (x + 44)) (zI (k : Int)) (zI (ba : Int)) (zI (rIx (lastR (wordS W c1 (E j) (stW E j) rs)) : Int)) (zI ((stW E j + E j : Nat) : Int) + 1) (zI (j : Int) + 1) (wA τ1 (x + 44) R2) = _
      rw [zN_add1, zN_add1]
      exact j1
    have e9 : zI (ba : Int) + zI (S3 : Int) = zI ((ba + S3 : Nat) : Int) := zN_add ba S3
    rw [LL_breaks_119, ar_da h, bnd, z10, ar_ia h (by omega), bnd, h.1.2.2 (10 * k), hcnt, if_neg (fun y => by have := (zN_le (by omega) (by omega)).mp y; omega), zN_add1, zN_add, ar_ia h (by omega), bnd, h.1.2.2 (10 * k + 1 + j), e1, ar_dr h, bnd, ar_r63 h, bnd, h.2.2.2.2 63, e.2.1, zN_sub1 r1, ar_ir h (by have := e.1; omega), bnd, h.2.2.2.2 (rs.1 - 1), el, f_length ok, bnd]
    by_cases z : 0 < rLe (lastR rs)
    · have n0 : ¬ zI (rLe (lastR rs) : Int) ≤ 0 := fun y => by have := (zN_le (a := rLe (lastR rs)) (b := 0) (by omega) (by omega)).mp y; omega
      rw [if_neg n0, f_first ok, bnd, bnd, ar_dg h, bnd, ar_g0 h, bnd, h.2.1.2.2 0, hg0, zN_add, zN_add1, zN_add]
      by_cases q : rCo (lastR rs) + rLe (lastR rs) + 1 + E j ≤ W
      · obtain ⟨s1, s2, s3, s4, s5, s6, s7⟩ := lst_set rs (rLe (lastR rs) + 1)
        rw [if_pos ((zN_le (by omega) (by omega)).mpr q), bnd, if_neg n0, bnd, h.2.2.2.2 63, e.2.1, zN_sub1 r1, ar_ir h (by have := e.1; omega), bnd, ar_nr h, bnd, ar_ir h (by have := e.1; omega), bnd, bnd, stA_is τ (x + 44) _ _ h.2.2.2.2, h.2.2.2.2 (rs.1 - 1), el]
        obtain ⟨R', d1, d2⟩ := cont (wA τ (x + 44) (upL R (rs.1 - 1) (zI (enc (lastR rs) : Int) + 65536))) _ (setL rs (rLe (lastR rs) + 1)) (AR_r h _) (ER_one e r1 (by omega)) (by rw [s6]; exact r1) (by rw [s5]; exact r4) (by rw [s1, s2]; omega) (by rw [← wF, wordF, if_pos z, if_pos q])
        rw [s4, wA_wA] at d1
        exact ⟨R', d1, d2⟩
      · obtain ⟨t1, t2, t3, t4, t5, t6, t7⟩ := lst_nx rs c1 (stW E j) 0
        obtain ⟨R1, c1', c2'⟩ := b_comes h e hg0 hW hW2 k (rIx (lastR rs) + 1) (ba + S3) 0 (stW E j) (by omega) (by omega) hb (by decide) (by omega) (by omega)
        have c3' : addR rs (k, rIx (lastR rs) + 1, min (ba + S3) (W - 6), stW E j, 0, 0) = nxR rs c1 (stW E j) 0 := by rw [nxR, r4, hc1]
        rw [c3'] at c2'
        rw [if_neg (fun y => q ((zN_le (by omega) (by omega)).mp y)), ar_g3 h, bnd, h.2.1.2.2 3, hg3, e9, zN_add1]
        have c1'' : f_L_comes τ (some (x + 44)) (some (x + 43)) (zI (k : Int)) (zI ((rIx (lastR rs) + 1 : Nat) : Int)) (zI ((ba + S3 : Nat) : Int)) 0 (zI (stW E j : Int)) = some (wA τ (x + 44) R1) := c1'
        rw [c1'', bnd, bnd]
        obtain ⟨R', d1, d2⟩ := cont (wA τ (x + 44) R1) R1 (nxR rs c1 (stW E j) 0) (AR_r h R1) c2' (by omega) (by omega) (by omega) (by rw [← wF, wordF, if_pos z, if_neg q])
        rw [t4, wA_wA] at d1
        exact ⟨R', d1, d2⟩
    · have z0 : rLe (lastR rs) = 0 := by omega
      rw [z0, if_pos (show zI ((0 : Nat) : Int) ≤ 0 by decide), bnd, if_pos (show zI ((0 : Nat) : Int) ≤ 0 by decide), bnd]
      exact cont τ R rs h e r1 r4 r8 (by rw [← wF, wordF, if_neg z])

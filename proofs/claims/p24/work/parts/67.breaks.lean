-- the law's breaks: its rows are the layout's
theorem wA_wA (σ : St) (a : Nat) (F F' : Nat → Int32) : wA (wA σ a F) a F' = wA σ a F' := by
  have e : (fun b j => if b = a then F' j else (fun b j => if b = a then F j else σ.2.2.2.2.2.2.2.2.1 b j) b j) = fun b j => if b = a then F' j else σ.2.2.2.2.2.2.2.2.1 b j := by
    funext b j
    by_cases q : b = a
    · rw [if_pos q, if_pos q]
    · rw [if_neg q, if_neg q]; exact if_neg q
  show (σ.1, σ.2.1, σ.2.2.1, σ.2.2.2.1, σ.2.2.2.2.1, σ.2.2.2.2.2.1, σ.2.2.2.2.2.2.1, σ.2.2.2.2.2.2.2.1, (fun b j => if b = a then F' j else (fun b j => if b = a then F j else σ.2.2.2.2.2.2.2.2.1 b j) b j), σ.2.2.2.2.2.2.2.2.2.1, σ.2.2.2.2.2.2.2.2.2.2) = _
  rw [e]; rfl
section ARS
variable {x : Nat} {τ : St} {A G R : Nat → Int32}
theorem ar_da (h : AR x τ A G R) : dnA τ (some (x + 42)) = some (x + 42) := dnA_eq h.1.1
theorem ar_dg (h : AR x τ A G R) : dnA τ (some (x + 43)) = some (x + 43) := dnA_eq h.2.1.1
theorem ar_dr (h : AR x τ A G R) : dnA τ (some (x + 44)) = some (x + 44) := dnA_eq h.2.2.1
theorem ar_na (h : AR x τ A G R) : dn τ 13 (some (x + 42)) = some (x + 42) := dn_eq h.1.1
theorem ar_ng (h : AR x τ A G R) : dn τ 13 (some (x + 43)) = some (x + 43) := dn_eq h.2.1.1
theorem ar_nr (h : AR x τ A G R) : dn τ 13 (some (x + 44)) = some (x + 44) := dn_eq h.2.2.1
theorem ar_ia (h : AR x τ A G R) {j : Nat} (hj : j < 64) : ix (zI (j : Int)) (hpL τ (x + 42)) = some j := by rw [h.1.2.1]; exact ix_l 64 j hj (by decide)
theorem ar_ig (h : AR x τ A G R) {j : Nat} (hj : j < 5) : ix (zI (j : Int)) (hpL τ (x + 43)) = some j := by rw [h.2.1.2.1]; exact ix_l 5 j hj (by decide)
theorem ar_ir (h : AR x τ A G R) {j : Nat} (hj : j < 64) : ix (zI (j : Int)) (hpL τ (x + 44)) = some j := by rw [h.2.2.2.1]; exact ix_l 64 j hj (by decide)
theorem ar_a60 (h : AR x τ A G R) : ix 60 (hpL τ (x + 42)) = some 60 := ar_ia h (j := 60) (by decide)
theorem ar_r63 (h : AR x τ A G R) : ix 63 (hpL τ (x + 44)) = some 63 := ar_ir h (j := 63) (by decide)
theorem ar_g0 (h : AR x τ A G R) : ix 0 (hpL τ (x + 43)) = some 0 := ar_ig h (j := 0) (by decide)
theorem ar_g2 (h : AR x τ A G R) : ix 2 (hpL τ (x + 43)) = some 2 := ar_ig h (j := 2) (by decide)
theorem ar_g3 (h : AR x τ A G R) : ix 3 (hpL τ (x + 43)) = some 3 := ar_ig h (j := 3) (by decide)
end ARS
/-- the array r holds the rows -/
def ER (R : Nat → Int32) (rs : RS) : Prop := rs.1 ≤ 60 ∧ R 63 = zI (rs.1 : Int) ∧ ∀ i, i < rs.1 → R i = zI (enc (rs.2 i) : Int) ∧ okE (rs.2 i)
theorem ER_add {R : Nat → Int32} {rs : RS} (e : ER R rs) (h : rs.1 < 60) (r : RT) (hr : okE r) : ER (upL (upL R rs.1 (zI (enc r : Int))) 63 (zI (rs.1 + 1 : Nat))) (addR rs r) := by
  obtain ⟨e1, e2, e3⟩ := e
  refine ⟨by show rs.1 + 1 ≤ 60; omega, if_pos rfl, fun i hi => ?_⟩
  have hi : i < rs.1 + 1 := hi
  show (if i = 63 then _ else if i = rs.1 then _ else _) = zI (enc (if i = rs.1 then r else rs.2 i) : Int) ∧ okE (if i = rs.1 then r else rs.2 i)
  rw [if_neg (by omega)]
  by_cases q : i = rs.1
  · rw [if_pos q, if_pos q]; exact ⟨rfl, hr⟩
  · rw [if_neg q, if_neg q]; exact e3 i (by omega)
theorem ER_one {R : Nat → Int32} {rs : RS} (e : ER R rs) (h : 0 < rs.1) (hl : rLe (lastR rs) + 1 < 256) : ER (upL R (rs.1 - 1) (zI (enc (lastR rs) : Int) + 65536)) (setL rs (rLe (lastR rs) + 1)) := by
  obtain ⟨e1, e2, e3⟩ := e
  refine ⟨e1, (if_neg (by omega)).trans e2, fun i hi => ?_⟩
  have hi : i < rs.1 := hi
  show (if i = rs.1 - 1 then _ else _) = zI (enc (if i = rs.1 - 1 then wLe (rs.2 i) (rLe (lastR rs) + 1) else rs.2 i) : Int) ∧ okE (if i = rs.1 - 1 then wLe (rs.2 i) (rLe (lastR rs) + 1) else rs.2 i)
  by_cases q : i = rs.1 - 1
  · rw [if_pos q, if_pos q, q]
    obtain ⟨a1, a2, a3, a4, a5, a6⟩ := (e3 (rs.1 - 1) (by omega)).2
    refine ⟨?_, a1, a2, a3, hl, a5, a6⟩
    show zI (enc (lastR rs) : Int) + zI 65536 = _
    rw [zI_add]
    congr 1
    show ((rLn (lastR rs) + 16 * rIx (lastR rs) + 256 * rCo (lastR rs) + 65536 * rLe (lastR rs) + 16777216 * rWi (lastR rs) + 33554432 * rFr (lastR rs) : Nat) : Int) + 65536 = ((rLn (lastR rs) + 16 * rIx (lastR rs) + 256 * rCo (lastR rs) + 65536 * (rLe (lastR rs) + 1) + 16777216 * rWi (lastR rs) + 33554432 * rFr (lastR rs) : Nat) : Int)
    omega
  · rw [if_neg q, if_neg q]; exact e3 i hi
theorem ER_last {R : Nat → Int32} {rs : RS} (e : ER R rs) (h : 0 < rs.1) : R (rs.1 - 1) = zI (enc (lastR rs) : Int) ∧ okE (lastR rs) := e.2.2 (rs.1 - 1) (by omega)
theorem b_comes {x : Nat} {τ : St} {A G R : Nat → Int32} {rs : RS} {W : Nat} (h : AR x τ A G R) (e : ER R rs) (hg : G 0 = zI (W : Int)) (hW : 12 ≤ W) (hW2 : W ≤ 60) (k i c w p : Nat) (hk : k < 16) (hi : i < 16) (hc : c ≤ 1000) (hw : w < 2) (hp : p < 64) (hr : rs.1 < 60) :
    ∃ R', f_L_comes τ (some (x + 44)) (some (x + 43)) (zI (k : Int)) (zI (i : Int)) (zI (c : Int)) (zI (w : Int)) (zI (p : Int)) = some (wA τ (x + 44) R') ∧ ER R' (addR rs (k, i, min c (W - 6), p, 0, w)) := by
  have e6 : zI (W : Int) - 6 = zI ((W - 6 : Nat) : Int) := by
    show zI (W : Int) - zI 6 = _
    rw [zI_sub]; congr 1; omega
  have hx : ((if zI (c : Int) ≤ hpA τ (x + 43) 0 - 6 then some (zI (c : Int)) else (some 0).bind fun j7 => some (hpA τ (x + 43) j7 - 6)) : Option Int32) = some (zI ((min c (W - 6) : Nat) : Int)) := by
    rw [bnd, h.2.1.2.2 0, hg, e6]
    by_cases q : c ≤ W - 6
    · rw [if_pos ((zN_le (by omega) (by omega)).mpr q), Nat.min_eq_left q]
    · rw [if_neg (fun y => q ((zN_le (by omega) (by omega)).mp y)), Nat.min_eq_right (by omega)]
  refine ⟨_, ?_, ER_add e hr (k, i, min c (W - 6), p, 0, w) ⟨hk, hi, by show min c (W - 6) < 256; omega, by show 0 < 256; omega, hw, hp⟩⟩
  rw [f_L_comes, ar_dg h, bnd, ar_g0 h, bnd, hx, bnd, ar_dr h, bnd, ar_r63 h, bnd, ar_nr h, bnd, h.2.2.2.2 63, e.2.1, ar_ir h (by omega), bnd, enc_mk hk hi (by omega) hw hp, stA_is τ (x + 44) rs.1 _ h.2.2.2.2, ar_r63 (AR_r h _), bnd, bnd, stA_wA, hpA_wA, if_pos rfl]
  have e9 : upL R rs.1 (zI (enc (k, i, min c (W - 6), p, 0, w) : Int)) 63 + 1 = zI ((rs.1 + 1 : Nat) : Int) := by
    rw [show upL R rs.1 (zI (enc (k, i, min c (W - 6), p, 0, w) : Int)) 63 = R 63 from if_neg (by omega), e.2.1, zN_add1]
  rw [e9]
/-- letters one by one -/
theorem b_fill {x W S3 ba k c1 : Nat} {A G : Nat → Int32} {o9 : Int32} (hg0 : G 0 = zI (W : Int)) (hg3 : G 3 = zI (S3 : Int)) (hW : 12 ≤ W) (hW2 : W ≤ 60) (hb : ba + S3 ≤ 1000) (hc1 : c1 = min (ba + S3) (W - 6)) (hk : k < 16) :
    ∀ (l p f : Nat) (rs : RS) (R : Nat → Int32) (τ : St), l < f → AR x τ A G R → ER R rs → 0 < rs.1 → rLn (lastR rs) = k → rCo (lastR rs) + rLe (lastR rs) ≤ W → p + l ≤ 64 → (fillS W c1 l p rs).1 ≤ 60 → rIx (lastR (fillS W c1 l p rs)) < 16 →
    ∃ R', LL_breaks_227 f (some (x + 42)) (some (x + 43)) (some (x + 44)) (zI (k : Int)) (zI (ba : Int)) o9 (zI (rIx (lastR rs) : Int)) (zI (p : Int)) (zI (l : Int)) τ = some (zI (rIx (lastR (fillS W c1 l p rs)) : Int), zI ((p + l : Nat) : Int), wA τ (x + 44) R') ∧ ER R' (fillS W c1 l p rs) := by
  intro l
  induction l with
  | zero =>
    intro p f rs R τ hf h e h0 h1 h2 h3 h4 h5
    obtain ⟨f, rfl⟩ : ∃ g, f = g + 1 := ⟨f - 1, by omega⟩
    refine ⟨R, ?_, e⟩
    rw [LL_breaks_227, if_pos (show zI ((0 : Nat) : Int) ≤ 0 by decide), wA_self τ (x + 44) R h.2.2.2.2]; rfl
  | succ l ih =>
    intro p f rs R τ hf h e h0 h1 h2 h3 h4 h5
    obtain ⟨f, rfl⟩ : ∃ g, f = g + 1 := ⟨f - 1, by omega⟩
    obtain ⟨el, ok⟩ := ER_last e h0
    have e60 := e.1
    have hm := fill_mono (W := W) (c1 := c1) l (p + 1) (setL (if rCo (lastR rs) + rLe (lastR rs) = W then nxR rs c1 p 1 else rs) (rLe (lastR (if rCo (lastR rs) + rLe (lastR rs) = W then nxR rs c1 p 1 else rs)) + 1))
    rw [fillS] at h4 h5 ⊢
    have ep : zI ((p + (l + 1) : Nat) : Int) = zI ((p + 1 + l : Nat) : Int) := by congr 2; omega
    rw [ep]
    have cont : ∀ (τ1 : St) (R1 : Nat → Int32) (rs1 : RS), AR x τ1 A G R1 → ER R1 rs1 → 0 < rs1.1 → rLn (lastR rs1) = k → rCo (lastR rs1) + rLe (lastR rs1) < W → (fillS W c1 l (p + 1) (setL rs1 (rLe (lastR rs1) + 1))).1 ≤ 60 → rIx (lastR (fillS W c1 l (p + 1) (setL rs1 (rLe (lastR rs1) + 1)))) < 16 →
        ∃ R', ((dnA τ1 (some (x + 44))).bind fun a120 =>
      (ix 63 (hpL τ1 a120)).bind fun j122 =>
      (ix ((hpA τ1 a120 j122) - 1) (hpL τ1 a120)).bind fun j124 =>
      (dn τ1 13 (some (x + 44))).bind fun a126 =>
      (ix ((hpA τ1 a120 j122) - 1) (hpL τ1 a126)).bind fun j128 =>
      LL_breaks_227 f (some (x + 42)) (some (x + 43)) (some (x + 44)) (zI (k : Int)) (zI (ba : Int)) o9 (zI (rIx (lastR rs1) : Int)) (zI (p : Int) + 1) (zI ((l + 1 : Nat) : Int) + (-1)) (stA τ1 a126 j128 ((hpA τ1 a120 j124) + 65536))) = some (zI (rIx (lastR (fillS W c1 l (p + 1) (setL rs1 (rLe (lastR rs1) + 1)))) : Int), zI ((p + 1 + l : Nat) : Int), wA τ1 (x + 44) R') ∧ ER R' (fillS W c1 l (p + 1) (setL rs1 (rLe (lastR rs1) + 1))) := by
      intro τ1 R1 rs1 g1 g2 g3 g4 g5 g6 g7
      obtain ⟨al, _⟩ := ER_last g2 g3
      have g60 := g2.1
      obtain ⟨s1, s2, s3, s4, s5, s6, s7⟩ := lst_set rs1 (rLe (lastR rs1) + 1)
      obtain ⟨R', i1, i2⟩ := ih (p + 1) f (setL rs1 (rLe (lastR rs1) + 1)) (upL R1 (rs1.1 - 1) (zI (enc (lastR rs1) : Int) + 65536)) (wA τ1 (x + 44) (upL R1 (rs1.1 - 1) (zI (enc (lastR rs1) : Int) + 65536))) (by omega) (AR_r g1 _) (ER_one g2 g3 (by omega)) (by rw [s6]; exact g3) (by rw [s5]; exact g4) (by rw [s1, s2]; omega) (by omega) g6 g7
      refine ⟨R', ?_, i2⟩
      have e1 : zI ((l + 1 : Nat) : Int) + (-1) = zI (l : Int) := by
        show zI ((l + 1 : Nat) : Int) + zI (-1) = _
        rw [zI_add]; congr 1; omega
      rw [ar_dr g1, bnd, ar_r63 g1, bnd, g1.2.2.2.2 63, g2.2.1, zN_sub1 g3, ar_ir g1 (by omega), bnd, ar_nr g1, bnd, ar_ir g1 (by omega), bnd, g1.2.2.2.2 (rs1.1 - 1), al, stA_is τ1 (x + 44) _ _ g1.2.2.2.2, e1, zN_add1]
      rw [s4, wA_wA] at i1
      exact i1
    have e9 : zI (ba : Int) + zI (S3 : Int) = zI ((ba + S3 : Nat) : Int) := zN_add ba S3
    rw [LL_breaks_227, if_neg (fun y => by have := (zN_le (a := l + 1) (b := 0) (by omega) (by omega)).mp y; omega), ar_dr h, bnd, ar_r63 h, bnd, h.2.2.2.2 63, e.2.1, zN_sub1 h0, ar_ir h (by omega), bnd, h.2.2.2.2 (rs.1 - 1), el, f_first ok, bnd, f_length ok, bnd, ar_dg h, bnd, ar_g0 h, bnd, h.2.1.2.2 0, hg0, zN_add]
    by_cases q : rCo (lastR rs) + rLe (lastR rs) = W
    · rw [if_pos q] at hm h4 h5 ⊢
      obtain ⟨t1, t2, t3, t4, t5, t6, t7⟩ := lst_nx rs c1 p 1
      obtain ⟨s1, s2, s3, s4, s5, s6, s7⟩ := lst_set (nxR rs c1 p 1) (rLe (lastR (nxR rs c1 p 1)) + 1)
      obtain ⟨R1, c1', c2'⟩ := b_comes h e hg0 hW hW2 k (rIx (lastR rs) + 1) (ba + S3) 1 p hk (by omega) hb (by decide) (by omega) (by omega)
      have c3 : addR rs (k, rIx (lastR rs) + 1, min (ba + S3) (W - 6), p, 0, 1) = nxR rs c1 p 1 := by rw [nxR, h1, hc1]
      rw [c3] at c2'
      rw [if_neg (fun y => y (by rw [q])), ar_g3 h, bnd, h.2.1.2.2 3, hg3, e9, zN_add1]
      have c1'' : f_L_comes τ (some (x + 44)) (some (x + 43)) (zI (k : Int)) (zI ((rIx (lastR rs) + 1 : Nat) : Int)) (zI ((ba + S3 : Nat) : Int)) 1 (zI (p : Int)) = some (wA τ (x + 44) R1) := c1'
      rw [c1'', bnd, bnd]
      obtain ⟨R', d1, d2⟩ := cont (wA τ (x + 44) R1) R1 (nxR rs c1 p 1) (AR_r h R1) c2' (by omega) (by omega) (by omega) h4 h5
      rw [t4, wA_wA] at d1
      exact ⟨R', d1, d2⟩
    · rw [if_neg q] at hm h4 h5 ⊢
      rw [if_pos (fun y => q ((zN_eq (by omega) (by omega)).mp y)), bnd]
      exact cont τ R rs h e h0 h1 (by omega) h4 h5

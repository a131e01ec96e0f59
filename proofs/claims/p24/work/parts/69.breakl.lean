-- the law's cells and the poem; its lines broken
/-- cells 10 k .. of a are line l's -/
def LM (A : Nat → Int32) (k : Nat) (l : LnT) : Prop := A (10 * k) = zI (nCnt l : Int) ∧ 1 ≤ nCnt l ∧ nCnt l ≤ 3 ∧ (∀ i, i < nCnt l → A (10 * k + 1 + i) = zI (nE l i : Int) ∧ 1 ≤ nE l i ∧ nE l i ≤ 16) ∧ A (10 * k + 5) = zI (nSt l : Int) ∧ A (10 * k + 6) = zI (nHf l : Int) ∧ A (10 * k + 7) = zI (nLa l : Int)
def PA (A G : Nat → Int32) (P : PoT) : Prop := P.2.1 ≤ 6 ∧ A 60 = zI (P.2.1 : Int) ∧ (∀ k, k < P.2.1 → LM A k (P.1 k)) ∧ ∀ i, i < 5 → G i = zI (P.2.2 i : Int)
theorem zN_1 {a : Nat} (h : a ≤ 1) : (zI (a : Int) = 1) ↔ a = 1 := zN_eq (a := a) (b := 1) (by omega) (by omega)
theorem zN_0 {a : Nat} (h : a ≤ 2147483647) : (zI (a : Int) = 0) ↔ a = 0 := zN_eq (a := a) (b := 0) h (by omega)
theorem b_isFirst {x : Nat} {τ : St} {A G R : Nat → Int32} {P : PoT} (h : AR x τ A G R) (p : PA A G P) (ho : okP P) {k : Nat} (hk : k < P.2.1) : f_L_isFirst τ (some (x + 42)) (zI (k : Int)) = some (if bgS P k = true then 1 else 0) := by
  obtain ⟨p1, p2, p3, p4⟩ := p
  rw [f_L_isFirst]
  by_cases q : k = 0
  · subst q
    rw [if_pos (show zI ((0 : Nat) : Int) = 0 from rfl), if_pos (show bgS P 0 = true from rfl)]
  · rw [if_neg (mt (zN_0 (by omega)).mp q), ar_da h, bnd, z10]
    have e3 : zI ((10 * k : Nat) : Int) - 3 = zI ((10 * (k - 1) + 7 : Nat) : Int) := by
      show zI ((10 * k : Nat) : Int) - zI 3 = _
      rw [zI_sub]; congr 1; omega
    have hl := (ho.2.1 (k - 1) (by omega)).2.2.2.2.2.2
    rw [e3, ar_ia h (by omega), bnd, h.1.2.2, (p3 (k - 1) (by omega)).2.2.2.2.2.2]
    by_cases z : nLa (P.1 (k - 1)) = 1
    · rw [if_neg (fun y => y ((zN_1 hl).mpr z)), if_pos (by simp [bgS, z])]
    · rw [if_pos (fun y => z ((zN_1 hl).mp y)), if_neg (by simp [bgS, z, q])]
theorem b_leans {x : Nat} {τ : St} {A G R : Nat → Int32} {P : PoT} (h : AR x τ A G R) (p : PA A G P) (ho : okP P) {k : Nat} (hk : k < P.2.1) : ((if ¬ hpA τ (x + 42) (10 * k + 6) = 1 then some 0 else (f_L_isFirst τ (some (x + 42)) (zI (k : Int))).bind fun q22 => if ¬ q22 = 0 then some 0 else some 1) : Option Int32) = some (if lnS P k = true then 1 else 0) := by
  have hh := (ho.2.1 k hk).2.2.2.2.2.1
  rw [b_isFirst h p ho hk, bnd, h.1.2.2, (p.2.2.1 k hk).2.2.2.2.2.1]
  by_cases z : nHf (P.1 k) = 1
  · rw [if_neg (fun y => y ((zN_1 hh).mpr z))]
    have e : lnS P k = !bgS P k := by simp [lnS, z]
    rw [e]
    cases bgS P k <;> decide
  · rw [if_pos (fun y => z ((zN_1 hh).mp y)), if_neg (by simp [lnS, z])]
theorem RB_first {P : PoT} {W k : Nat} (hW : 12 ≤ W) (rs : RS) : RB k W (c1S P W k) (addR rs (k, 0, c0S P W k rs, 0, 0, 0)) 0 (stW (nE (P.1 k)) 0) := by
  have eL : lastR (addR rs (k, 0, c0S P W k rs, 0, 0, 0)) = (k, 0, c0S P W k rs, 0, 0, 0) := lastR_add _ _
  have hc0 : c0S P W k rs + 6 ≤ W := by unfold c0S; omega
  refine ⟨⟨?_, ?_, ?_, ?_, ?_, ?_⟩, Or.inl ⟨?_, ?_, ?_⟩, ?_⟩
  · show 0 < rs.1 + 1; omega
  · rw [eL]; exact hc0
  · unfold c1S; omega
  · rw [eL]; rfl
  · rw [eL]; show 8 * (0 / 2) ≤ 0; omega
  · rw [eL]; intro x; exact absurd x (by show ¬ 0 < 0; omega)
  · rw [eL]; rfl
  · rw [eL]; rfl
  · rw [eL]; rfl
  · rw [eL]; show c0S P W k rs + 0 ≤ _; omega
theorem words_gr {W c1 k cnt : Nat} {E : Nat → Nat} (hE : ∀ i, i < cnt → 1 ≤ E i ∧ E i ≤ 16) : ∀ (d j : Nat) (rs : RS) (fp : Nat), j + d = cnt → RB k W c1 rs fp (stW E j) → (wordsS W c1 E d j rs).1 ≤ rs.1 + 3 * d := by
  intro d
  induction d with
  | zero => intro j rs fp _ _; exact Nat.le_refl _
  | succ d ih =>
    intro j rs fp hj hr
    obtain ⟨e1, e2⟩ := hE j (by omega)
    obtain ⟨fp', w1, w2, w3⟩ := word_ok hr e1 (by omega)
    have := word_gr hr e1 e2
    have := ih (j + 1) _ fp' (by omega) w1
    rw [wordsS]; omega
theorem lay_10 {P : PoT} {A G : Nat → Int32} (p : PA A G P) {W : Nat} (hW : 12 ≤ W) : ∀ k, k ≤ P.2.1 → (layA P W k).1 ≤ 10 * k := by
  intro k
  induction k with
  | zero => intro _; exact Nat.le_refl 0
  | succ k ih =>
    intro hk
    obtain ⟨l1, l2, l3, l4, l5, l6, l7⟩ := p.2.2.1 k (by omega)
    have := words_gr (E := nE (P.1 k)) (fun i hi => (l4 i hi).2) (nCnt (P.1 k)) 0 _ 0 (by omega) (RB_first (P := P) (k := k) hW (layA P W k))
    have e : (layA P W (k + 1)).1 = (wordsS W (c1S P W k) (nE (P.1 k)) (nCnt (P.1 k)) 0 (addR (layA P W k) (k, 0, c0S P W k (layA P W k), 0, 0, 0))).1 := rfl
    have e2 : (addR (layA P W k) (k, 0, c0S P W k (layA P W k), 0, 0, 0)).1 = (layA P W k).1 + 1 := rfl
    have := ih (by omega)
    omega
theorem len_51 {A : Nat → Int32} {k : Nat} {l : LnT} (h : LM A k l) (ho : okL l) : stW (nE l) (nCnt l) ≤ 51 ∧ nLen l + 1 = stW (nE l) (nCnt l) := by
  obtain ⟨l1, l2, l3, l4, l5, l6, l7⟩ := h
  refine ⟨?_, (ho.2.2.2.1.2.1 ho.2.1).1⟩
  have g : ∀ j, j ≤ nCnt l → stW (nE l) j ≤ 17 * j := by
    intro j
    induction j with
    | zero => intro _; exact Nat.le_refl 0
    | succ j ih => intro hj; have := ih (by omega); have := (l4 j (by omega)).2.2; rw [stW]; omega
  have := g (nCnt l) (Nat.le_refl _)
  omega
theorem b_lines {x : Nat} {A G : Nat → Int32} {P : PoT} (p : PA A G P) (ho : okP P) : ∀ (d k f : Nat) (R : Nat → Int32) (τ : St), k + d = P.2.1 → d < f → AR x τ A G R → ER R (layA P (P.2.2 0) k) →
    ∃ R', LL_breaks_7 f (some (x + 42)) (some (x + 43)) (some (x + 44)) (zI (k : Int)) τ = some (wA τ (x + 44) R') ∧ ER R' (layA P (P.2.2 0) P.2.1) := by
  obtain ⟨p1, p2, p3, p4⟩ := id p
  obtain ⟨s1, s2, s3, s4, s5, s6, s7⟩ := ho.2.2
  intro d
  induction d with
  | zero =>
    intro k f R τ hk hf h e
    obtain ⟨f, rfl⟩ : ∃ g, f = g + 1 := ⟨f - 1, by omega⟩
    rw [show k = P.2.1 by omega] at e ⊢
    refine ⟨R, ?_, e⟩
    rw [LL_breaks_7, ar_da h, bnd, ar_a60 h, bnd, h.1.2.2 60, p2, if_pos ((zN_le (by omega) (by omega)).mpr (Nat.le_refl _)), wA_self τ (x + 44) R h.2.2.2.2]
  | succ d ih =>
    intro k f R τ hk hf h e
    obtain ⟨f, rfl⟩ : ∃ g, f = g + 1 := ⟨f - 1, by omega⟩
    have hkn : k < P.2.1 := by omega
    obtain ⟨l1, l2, l3, l4, l5, l6, l7⟩ := p3 k hkn
    have hl := len_51 (p3 k hkn) (ho.2.1 k hkn)
    have hst := (ho.2.1 k hkn).2.2.2.2.1
    have g10 := lay_10 p s1 k (by omega)
    have lok := layA_ok ho s1 s2 k (by omega)
    have hmul : nSt (P.1 k) * P.2.2 2 ≤ 30 := Nat.le_trans (Nat.mul_le_mul hst s5) (by decide)
    have em : zI (nSt (P.1 k) : Int) * zI (P.2.2 2 : Int) = zI ((nSt (P.1 k) * P.2.2 2 : Nat) : Int) := by rw [zI_mul]; congr 1
    have e5 : zI ((10 * k : Nat) : Int) + 5 = zI ((10 * k + 5 : Nat) : Int) := zN_add (10 * k) 5
    have e6 : zI ((10 * k : Nat) : Int) + 6 = zI ((10 * k + 6 : Nat) : Int) := zN_add (10 * k) 6
    have hrf := RB_first (P := P) (k := k) s1 (layA P (P.2.2 0) k)
    have fin : ∀ (c : Nat), c ≤ 1000 → c0S P (P.2.2 0) k (layA P (P.2.2 0) k) = min c (P.2.2 0 - 6) → ∃ R', ((f_L_comes τ (some (x + 44)) (some (x + 43)) (zI (k : Int)) 0 (zI (c : Int)) 0 0).bind fun q41 =>
      (LL_breaks_119 FU (some (x + 42)) (some (x + 43)) (some (x + 44)) (zI (k : Int)) (zI ((nSt (P.1 k) * P.2.2 2 : Nat) : Int)) 0 0 0 q41).bind fun x44 =>
      LL_breaks_7 f (some (x + 42)) (some (x + 43)) (some (x + 44)) (zI (k : Int) + 1) x44) = some (wA τ (x + 44) R') ∧ ER R' (layA P (P.2.2 0) P.2.1) := by
      intro c hc hc0
      obtain ⟨R1, a1, a2⟩ := b_comes h e (p4 0 (by decide)) s1 s2 k 0 c 0 0 (by omega) (by decide) hc (by decide) (by decide) (by omega)
      have a1' : f_L_comes τ (some (x + 44)) (some (x + 43)) (zI (k : Int)) 0 (zI (c : Int)) 0 0 = some (wA τ (x + 44) R1) := a1
      rw [← hc0] at a2
      have eL : lastR (addR (layA P (P.2.2 0) k) (k, 0, c0S P (P.2.2 0) k (layA P (P.2.2 0) k), 0, 0, 0)) = (k, 0, c0S P (P.2.2 0) k (layA P (P.2.2 0) k), 0, 0, 0) := lastR_add _ _
      have eI : rIx (lastR (addR (layA P (P.2.2 0) k) (k, 0, c0S P (P.2.2 0) k (layA P (P.2.2 0) k), 0, 0, 0))) = 0 := by rw [eL]; rfl
      have eN : (addR (layA P (P.2.2 0) k) (k, 0, c0S P (P.2.2 0) k (layA P (P.2.2 0) k), 0, 0, 0)).1 = (layA P (P.2.2 0) k).1 + 1 := rfl
      obtain ⟨R2, b1, b2⟩ := b_words (x := x) (ba := nSt (P.1 k) * P.2.2 2) (c1 := c1S P (P.2.2 0) k) (E := nE (P.1 k)) (p4 0 (by decide)) (p4 3 (by decide)) s1 s2 (by omega) rfl (by omega : k < 6) l1 l3 l4 (by omega) (nCnt (P.1 k)) 0 FU _ R1 (wA τ (x + 44) R1) 0 (by omega) (by simp only [FU]; omega) (AR_r h R1) a2 hrf (by omega) (by omega)
      rw [eI] at b1
      have b1' : LL_breaks_119 FU (some (x + 42)) (some (x + 43)) (some (x + 44)) (zI (k : Int)) (zI ((nSt (P.1 k) * P.2.2 2 : Nat) : Int)) 0 0 0 (wA τ (x + 44) R1) = some (wA (wA τ (x + 44) R1) (x + 44) R2) := b1
      rw [wA_wA] at b1'
      obtain ⟨R3, d1, d2⟩ := ih (k + 1) f R2 (wA τ (x + 44) R2) (by omega) (by omega) (AR_r h R2) b2
      rw [wA_wA] at d1
      exact ⟨R3, by rw [a1', bnd, b1', bnd, zN_add1]; exact d1, d2⟩
    rw [LL_breaks_7, ar_da h, bnd, ar_a60 h, bnd, h.1.2.2 60, p2, if_neg (fun y => by have := (zN_le (by omega) (by omega)).mp y; omega), z10, e5, ar_ia h (by omega), bnd, ar_dg h, bnd, ar_g2 h, bnd, e6, ar_ia h (by omega), bnd, b_leans h p ho hkn, bnd, ar_dr h, bnd, ar_r63 h, bnd, h.1.2.2 (10 * k + 5), l5, h.2.1.2.2 2, p4 2 (by decide), em, h.2.2.2.2 63, e.2.1]
    cases hln : lnS P k with
    | false =>
      have hc0 : c0S P (P.2.2 0) k (layA P (P.2.2 0) k) = min (nSt (P.1 k) * P.2.2 2) (P.2.2 0 - 6) := by unfold c0S; rw [hln]; rfl
      obtain ⟨R', f1, f2⟩ := fin _ (by omega) hc0
      by_cases z : (layA P (P.2.2 0) k).1 = 0
      · rw [z, if_neg (fun y => y rfl), bnd, if_pos (by decide), bnd]
        exact ⟨R', f1, f2⟩
      · rw [if_pos (mt (zN_0 (by omega)).mp z), bnd, h.2.2.2.2 63, e.2.1, zN_sub1 (by omega), ar_ir h (by omega), bnd, bnd, if_pos (by decide), bnd]
        exact ⟨R', f1, f2⟩
    | true =>
      have hk0 : 0 < k := by
        rcases Nat.eq_zero_or_pos k with z | z
        · subst z; simp [lnS, bgS] at hln
        · exact z
      obtain ⟨n1, n2, n3⟩ := lok.2.1 hk0
      obtain ⟨el, ok⟩ := ER_last e n1
      have hc0 : c0S P (P.2.2 0) k (layA P (P.2.2 0) k) = min (rCo (lastR (layA P (P.2.2 0) k)) + rLe (lastR (layA P (P.2.2 0) k)) + 1) (P.2.2 0 - 6) := by unfold c0S; rw [hln]; rfl
      obtain ⟨R', f1, f2⟩ := fin _ (by omega) hc0
      rw [if_pos (mt (zN_0 (by omega)).mp (by omega)), bnd, h.2.2.2.2 63, e.2.1, zN_sub1 n1, ar_ir h (by omega), bnd, h.2.2.2.2, el, bnd, if_neg (by decide), f_first ok, bnd, f_length ok, bnd, zN_add, zN_add1, bnd]
      exact ⟨R', f1, f2⟩
theorem b_breaks {x : Nat} {τ : St} {A G R : Nat → Int32} {P : PoT} (p : PA A G P) (ho : okP P) (h : AR x τ A G R) : ∃ R', f_L_breaks τ (some (x + 42)) (some (x + 43)) (some (x + 44)) = some (wA τ (x + 44) R') ∧ ER R' (layA P (P.2.2 0) P.2.1) := by
  obtain ⟨R', a1, a2⟩ := b_lines p ho P.2.1 0 FU (upL R 63 0) (wA τ (x + 44) (upL R 63 0)) (by omega) (by have := p.1; simp only [FU]; omega) (AR_r h _) ⟨Nat.zero_le _, if_pos rfl, fun i hi => absurd hi (Nat.not_lt_zero i)⟩
  rw [wA_wA] at a1
  refine ⟨R', ?_, a2⟩
  rw [f_L_breaks, ar_nr h, bnd, ar_r63 h, bnd, stA_is τ (x + 44) 63 0 h.2.2.2.2]
  have a1' : LL_breaks_7 FU (some (x + 42)) (some (x + 43)) (some (x + 44)) 0 (wA τ (x + 44) (upL R 63 0)) = some (wA τ (x + 44) R') := a1
  rw [a1', bnd]

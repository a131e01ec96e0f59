-- the law types a line
theorem pos_0 {n : Nat} (h : n < 2147483647) : ¬ zI ((n + 1 : Nat) : Int) ≤ 0 := fun y => by
  have := (zN_le (a := n + 1) (b := 0) (by omega) (by omega)).mp y; omega
theorem b_steps {x u v k hf st : Nat} {P : PoT} {A G R : Nat → Int32} {p4 p5 : Int32} (hk : k < 6) (hA : A (10 * k + 5) = zI (st : Int)) (h5 : st ≤ 5) (h1 : hf ≤ 1) :
    ∀ (d i f : Nat) (τ : St) (T : Nat → Int32) (n : Nat), i + d = st → d < f → WQ x τ u v P T n A G R → HT T n hf i → n ≤ hf + 2 * i →
    ∃ τ' T' n', LL_types_160 f (some x) (some (x + 42)) (zI (k : Int)) p4 p5 1 (zI (i : Int)) τ = some (1, τ') ∧ WQ x τ' u v P T' n' A G R ∧ HT T' n' hf st ∧ n' ≤ hf + 2 * st ∧ PZ x τ τ' := by
  intro d
  induction d with
  | zero =>
    intro i f τ T n hi hf' W H hn
    obtain ⟨f, rfl⟩ : ∃ g, f = g + 1 := ⟨f - 1, by omega⟩
    have h := WQ_A W
    have e5 : zI ((10 * k : Nat) : Int) + 5 = zI ((10 * k + 5 : Nat) : Int) := zN_add (10 * k) 5
    rw [show i = st by omega] at H hn ⊢
    refine ⟨τ, T, n, ?_, W, H, hn, PZ_refl _ _⟩
    rw [LL_types_160, ar_da h, bnd, z10, e5, ar_ia h (by omega), bnd, h.1.2.2, hA, if_pos ((zN_le (by omega) (by omega)).mpr (Nat.le_refl _))]
  | succ d ih =>
    intro i f τ T n hi hf' W H hn
    obtain ⟨f, rfl⟩ : ∃ g, f = g + 1 := ⟨f - 1, by omega⟩
    have h := WQ_A W
    have e5 : zI ((10 * k : Nat) : Int) + 5 = zI ((10 * k + 5 : Nat) : Int) := zN_add (10 * k) 5
    obtain ⟨τ1, a1, a2, a3⟩ := z_type W (by omega) 62 (by decide)
    have a1' : f_X10_type τ x 62 = some (zI ((n + 1 : Nat) : Int), τ1) := a1
    have H1 : HT (upL T n 62) (n + 1) hf (i + 1) := HT_62 H
    rw [LL_types_160, ar_da h, bnd, z10, e5, ar_ia h (by omega), bnd, h.1.2.2, hA, if_neg (fun y => by have := (zN_le (by omega) (by omega)).mp y; omega), if_neg (show ¬ (1 : Int32) = 0 by decide), WQ_x W, bnd, a1', bnd]
    by_cases q : (p5 >>> (zI (i : Int) &&& 31)) &&& 1 = 0
    · obtain ⟨τ', T', n', b1, b2, b3, b4, b5⟩ := ih (i + 1) f τ1 _ (n + 1) (by omega) (by omega) a2 H1 (by omega)
      refine ⟨τ', T', n', ?_, b2, b3, b4, PZ_trans a3 b5⟩
      rw [if_neg (pos_0 (by omega)), if_pos q, bnd, zN_add1]
      exact b1
    · obtain ⟨τ2, c1, c2, c3⟩ := z_type a2 (by omega) 32 (by decide)
      have c1' : f_X10_type τ1 x 32 = some (zI ((n + 1 + 1 : Nat) : Int), τ2) := c1
      obtain ⟨τ', T', n', b1, b2, b3, b4, b5⟩ := ih (i + 1) f τ2 _ (n + 1 + 1) (by omega) (by omega) c2 (HT_32 H1) (by omega)
      refine ⟨τ', T', n', ?_, b2, b3, b4, PZ_trans a3 (PZ_trans c3 b5)⟩
      rw [if_neg (pos_0 (by omega)), if_neg q, WQ_x a2, bnd, c1', bnd, if_neg (pos_0 (by omega)), bnd, zN_add1]
      exact b1
theorem b_lts {x u v k m hf st i b len : Nat} {P : PoT} {A G R : Nat → Int32} {E : Nat → Nat} {p4 p5 : Int32} (hk : k < 6) (hA : A (10 * k + 4) = zI (b : Int)) (hb : b < 20) (hi : i < 3) (hl : len ≤ 16) (hm : m ≤ 12) (hs : stW E i ≤ 34) :
    ∀ (d j f : Nat) (τ : St) (T : Nat → Int32) (n : Nat), j + d = len → d < f → WQ x τ u v P T n A G R → WT T n m hf st E i j →
    ∃ τ' T' n', LL_types_325 f (some x) (some (x + 42)) (zI (k : Int)) p4 p5 (zI (i : Int)) (zI (len : Int)) 1 (zI (j : Int)) τ = some (1, τ') ∧ WQ x τ' u v P T' n' A G R ∧ WT T' n' m hf st E i len ∧ PZ x τ τ' := by
  intro d
  induction d with
  | zero =>
    intro j f τ T n hj hf' W H
    obtain ⟨f, rfl⟩ : ∃ g, f = g + 1 := ⟨f - 1, by omega⟩
    rw [show j = len by omega] at H ⊢
    refine ⟨τ, T, n, ?_, W, H, PZ_refl _ _⟩
    rw [LL_types_325, if_pos ((zN_le (by omega) (by omega)).mpr (Nat.le_refl _))]
  | succ d ih =>
    intro j f τ T n hj hf' W H
    obtain ⟨f, rfl⟩ : ∃ g, f = g + 1 := ⟨f - 1, by omega⟩
    have h := WQ_A W
    have e4 : zI ((10 * k : Nat) : Int) + 4 = zI ((10 * k + 4 : Nat) : Int) := zN_add (10 * k) 4
    have hn := H.1
    obtain ⟨τ1, a1, a2, a3⟩ := z_type W (by omega) (97 + b + i) (by omega)
    have ec : 97 + zI (b : Int) + zI (i : Int) = zI ((97 + b + i : Nat) : Int) := by
      show zI ((97 : Nat) : Int) + zI (b : Int) + zI (i : Int) = _
      rw [zN_add, zN_add]
    have hc : isl (zI ((97 + b + i : Nat) : Int)) = true := by
      unfold isl
      rw [decide_eq_true_iff]
      exact ⟨(zN_le (a := 97) (by omega) (by omega)).mpr (by omega), (zN_le (b := 122) (by omega) (by omega)).mpr (by omega)⟩
    have hc2 : ∀ y : Nat, y ≤ 126 → ¬ (97 + b + i = y) → zI ((97 + b + i : Nat) : Int) ≠ zI (y : Int) := fun y hy hne e => hne ((zN_eq (by omega) (by omega)).mp e)
    obtain ⟨τ', T', n', b1, b2, b3, b4⟩ := ih (j + 1) f τ1 _ (n + 1) (by omega) (by omega) a2 (WT_l H hc ⟨hc2 62 (by omega) (by omega), hc2 126 (by omega) (by omega), hc2 47 (by omega) (by omega)⟩)
    refine ⟨τ', T', n', ?_, b2, b3, PZ_trans a3 b4⟩
    rw [LL_types_325, if_neg (fun y => by have := (zN_le (by omega) (by omega)).mp y; omega), if_neg (show ¬ (1 : Int32) = 0 by decide), ar_da h, bnd, z10, e4, ar_ia h (by omega), bnd, WQ_x W, bnd, h.1.2.2, hA, ec, a1, bnd, if_neg (pos_0 (by omega)), bnd, zN_add1]
    exact b1
/-- the words' lengths that a script asks for -/
def wwN (p4 : Int32) : Nat := if lowN (p4 >>> (17 &&& 31)) 3 = 0 then 16 else 9
def eeN (p4 p5 : Int32) (i : Nat) : Nat := 1 + lowN (p5 >>> ((5 * zI (i : Int)) &&& 31)) (wwN p4)
theorem eeN_b (p4 p5 : Int32) (i : Nat) : 1 ≤ eeN p4 p5 i ∧ eeN p4 p5 i ≤ 16 := by
  have h0 : 0 < wwN p4 ∧ wwN p4 ≤ 16 := by unfold wwN; split <;> omega
  have := (f_low (0, 0, 0, fun _ => 0, fun _ => 0, fun _ _ => 0, fun _ _ => none, fun _ _ => 0, fun _ _ => 0, fun _ _ => none, fun _ => 0) (p5 >>> ((5 * zI (i : Int)) &&& 31)) h0.1 (by omega)).2
  unfold eeN; omega
theorem ee_st (p4 p5 : Int32) : ∀ i, stW (eeN p4 p5) i ≤ 17 * i := by
  intro i
  induction i with
  | zero => exact Nat.le_refl _
  | succ i ih => have := (eeN_b p4 p5 i).2; rw [stW]; omega
def HW (T : Nat → Int32) (n m hf st : Nat) (E : Nat → Nat) (i : Nat) : Prop := (i = 0 → HT T n hf st ∧ n + 1 = m) ∧ (0 < i → WT T n m hf st E (i - 1) (E (i - 1)))
theorem z1a (a : Nat) : 1 + zI (a : Int) = zI ((1 + a : Nat) : Int) := zN_add 1 a
theorem b_wds {x u v k m hf st b cnt : Nat} {P : PoT} {G R : Nat → Int32} {p4 p5 : Int32} (hu : u ≤ NX) (hv : v ≤ SX) (hk : k < 6) (hb : b < 20) (hc : cnt ≤ 3) (hm : m ≤ 12) (h5 : st ≤ 5) :
    ∀ (d i f : Nat) (τ : St) (T : Nat → Int32) (n : Nat) (A : Nat → Int32), i + d = cnt → d < f → WQ x τ u v P T n A G R → HW T n m hf st (eeN p4 p5) i → A (10 * k) = zI (cnt : Int) → A (10 * k + 4) = zI (b : Int) → (∀ j, j < i → A (10 * k + 1 + j) = zI (eeN p4 p5 j : Int)) →
    ∃ τ' T' n' A', LL_types_222 f (some x) (some (x + 42)) (zI (k : Int)) p4 p5 1 (zI (i : Int)) τ = some (1, τ') ∧ WQ x τ' u v P T' n' A' G R ∧ HW T' n' m hf st (eeN p4 p5) cnt ∧ (∀ j, j < cnt → A' (10 * k + 1 + j) = zI (eeN p4 p5 j : Int)) ∧ (∀ j, j < 10 * k + 1 ∨ 10 * k + 4 ≤ j → A' j = A j) ∧ PZ x τ τ' := by
  intro d
  induction d with
  | zero =>
    intro i f τ T n A hi hf' W H ha hab hae
    obtain ⟨f, rfl⟩ : ∃ g, f = g + 1 := ⟨f - 1, by omega⟩
    have h := WQ_A W
    rw [show i = cnt by omega] at H hae ⊢
    refine ⟨τ, T, n, A, ?_, W, H, hae, fun j _ => rfl, PZ_refl _ _⟩
    rw [LL_types_222, ar_da h, bnd, z10, ar_ia h (by omega), bnd, h.1.2.2, ha, if_pos ((zN_le (by omega) (by omega)).mpr (Nat.le_refl _))]
  | succ d ih =>
    intro i f τ T n A hi hf' W H ha hab hae
    obtain ⟨f, rfl⟩ : ∃ g, f = g + 1 := ⟨f - 1, by omega⟩
    have h := WQ_A W
    have hE := eeN_b p4 p5
    have hst := ee_st p4 p5
    have hsi := hst i
    have hei := hE i
    have hn : n ≤ 62 := by
      by_cases q : i = 0
      · have := (H.1 q).2; omega
      · have e := (H.2 (by omega)).1
        have := hst (i - 1)
        have := hE (i - 1)
        omega
    have q1 := (f_low τ (p4 >>> (17 &&& 31)) (n := 3) (by decide) (by decide)).1
    have q1' : f_L_low τ (p4 >>> (17 &&& 31)) 3 = some (zI (lowN (p4 >>> (17 &&& 31)) 3 : Int)) := q1
    have q2 : ((if ¬ zI (lowN (p4 >>> (17 &&& 31)) 3 : Int) = 0 then some 9 else some 16) : Option Int32) = some (zI (wwN p4 : Int)) := by
      have hlt := (f_low τ (p4 >>> (17 &&& 31)) (n := 3) (by decide) (by decide)).2
      unfold wwN
      by_cases z : lowN (p4 >>> (17 &&& 31)) 3 = 0
      · rw [if_neg (fun y => y ((zN_0 (by omega)).mpr z)), if_pos z]; rfl
      · rw [if_pos (mt (zN_0 (by omega)).mp z), if_neg z]; rfl
    have hww : 0 < wwN p4 ∧ wwN p4 < 2147483648 := by unfold wwN; split <;> omega
    have q3 := (f_low τ (p5 >>> ((5 * zI (i : Int)) &&& 31)) hww.1 hww.2).1
    have e1 : zI ((10 * k : Nat) : Int) + 1 + zI (i : Int) = zI ((10 * k + 1 + i : Nat) : Int) := by rw [zN_add1, zN_add]
    have ev : 1 + zI (lowN (p5 >>> ((5 * zI (i : Int)) &&& 31)) (wwN p4) : Int) = zI (eeN p4 p5 i : Int) := z1a _
    have W1 := WQ_a W (upL A (10 * k + 1 + i) (zI (eeN p4 p5 i : Int)))
    obtain ⟨τ1, a1, a2, a3⟩ := z_type W1 (by omega) 32 (by decide)
    have a1' : f_X10_type (wA τ (x + 42) (upL A (10 * k + 1 + i) (zI (eeN p4 p5 i : Int)))) x 32 = some (zI ((n + 1 : Nat) : Int), τ1) := a1
    have H1 : WT (upL T n 32) (n + 1) m hf st (eeN p4 p5) i 0 := by
      by_cases q : i = 0
      · obtain ⟨g1, g2⟩ := H.1 q
        subst q
        have := WT_0 (eeN p4 p5) (HT_32 g1) (by omega)
        rw [g2] at this ⊢
        exact this
      · have g := WT_b (H.2 (by omega)) (hE (i - 1)).1
        rw [show i - 1 + 1 = i by omega] at g
        exact g
    have hF : f_X10_fault τ1 x 0 = some (zI (Flt (upL T n 32) (n + 1))) := z_fault a2
    have hx97 : ((if ¬ zI (i : Int) = 0 then some (-1) else (f_X10_count τ1 x 10).bind fun q99 => some q99) : Option Int32) = some (zI (Flt (upL T n 32) (n + 1))) := by
      by_cases q : i = 0
      · subst q
        rw [if_neg (show ¬ ¬ zI ((0 : Nat) : Int) = 0 from fun y => y rfl), z_count10 a2 hu hv, bnd, F_a H1 h5]
      · rw [if_pos (mt (zN_0 (by omega)).mp q)]
        obtain ⟨i', rfl⟩ : ∃ i', i = i' + 1 := ⟨i - 1, by omega⟩
        rw [F_b H1 h5 (fun j _ => hE j)]; rfl
    obtain ⟨τ2, T2, n2, b1, b2, b3, b4⟩ := b_lts (p4 := p4) (p5 := p5) (len := eeN p4 p5 i) hk (show upL A (10 * k + 1 + i) (zI (eeN p4 p5 i : Int)) (10 * k + 4) = zI (b : Int) from (if_neg (by omega)).trans hab) hb (by omega : i < 3) hei.2 hm (by omega) (eeN p4 p5 i) 0 FU τ1 _ (n + 1) (by omega) (by simp only [FU]; omega) a2 H1
    have b1' : LL_types_325 FU (some x) (some (x + 42)) (zI (k : Int)) p4 p5 (zI (i : Int)) (zI (eeN p4 p5 i : Int)) 1 0 τ1 = some (1, τ2) := b1
    obtain ⟨τ', T', n', A', c1, c2, c3, c4, c5, c6⟩ := ih (i + 1) f τ2 T2 n2 (upL A (10 * k + 1 + i) (zI (eeN p4 p5 i : Int))) (by omega) (by omega) b2 ⟨fun q => absurd q (by omega), fun _ => b3⟩ ((if_neg (by omega)).trans ha) ((if_neg (by omega)).trans hab) (fun j hj => by
      by_cases q : j = i
      · subst q; exact if_pos rfl
      · exact (if_neg (by omega)).trans (hae j (by omega)))
    refine ⟨τ', T', n', A', ?_, c2, c3, c4, fun j hj => (c5 j hj).trans (if_neg (by omega)), PZ_trans (PZ_trans (PZ_wA τ _ (by omega)) a3) (PZ_trans b4 c6)⟩
    rw [LL_types_222, ar_da h, bnd, z10, ar_ia h (by omega), bnd, h.1.2.2, ha, if_neg (fun y => by have := (zN_le (by omega) (by omega)).mp y; omega), q1', bnd, q2, bnd, q3, bnd, ar_na h, bnd, e1, ar_ia h (by omega), bnd, ev, stA_is τ (x + 42) _ _ h.1.2.2, if_neg (show ¬ (1 : Int32) = 0 by decide), WQ_x W1, bnd, a1', bnd, if_neg (pos_0 (by omega)), WQ_x a2, bnd, hF, bnd, hx97, bnd, if_neg nn, bnd, b1', bnd, zN_add1]
    exact c1

-- one turn of the law's loop
def dnI (A : Nat → Int32) (s c : Nat) : Nat → Int32 := fun j => if s ≤ j ∧ j < c then A (j + 10) else A j
theorem dnI_0 (A : Nat → Int32) (s : Nat) : dnI A s s = A := by
  funext j
  exact if_neg (by omega)
theorem dnI_s (A : Nat → Int32) {s c : Nat} (h : s ≤ c) : upL (dnI A s c) c (A (c + 10)) = dnI A s (c + 1) := by
  funext j
  show (if j = c then A (c + 10) else if s ≤ j ∧ j < c then A (j + 10) else A j) = if s ≤ j ∧ j < c + 1 then A (j + 10) else A j
  by_cases q : j = c
  · subst q
    rw [if_pos rfl, if_pos (by omega)]
  · rw [if_neg q]
    by_cases z : s ≤ j ∧ j < c
    · rw [if_pos z, if_pos (by omega)]
    · rw [if_neg z, if_neg (by omega)]
theorem b_close {x s N : Nat} {A : Nat → Int32} {o0 o1 o3 o4 : Option Nat} {o5 v57 o8 : Int32} (hN : N ≤ 5) (h60 : A 60 = zI (N : Int)) (hl : lowN v57 3 = 0) : ∀ (d c f : Nat) (τ : St) {G R : Nat → Int32}, c + d = 10 * N → d < f → s ≤ c → AR x τ (dnI A s c) G R → LL_law_393 f o0 o1 (some (x + 42)) o3 o4 o5 v57 o8 (zI (c : Int)) τ = some (wA τ (x + 42) (dnI A s (10 * N))) := by
  intro d
  induction d with
  | zero =>
    intro c f τ G R hc hf hs h
    obtain ⟨f, rfl⟩ : ∃ g, f = g + 1 := ⟨f - 1, by omega⟩
    have e60 : dnI A s c 60 = zI (N : Int) := (if_neg (by omega)).trans h60
    rw [LL_law_393, ar_da h, bnd, ar_a60 h, bnd, h.1.2.2 60, e60, z10, if_pos ((zN_le (by omega) (by omega)).mpr (by omega)), wA_self τ (x + 42) _ (by rw [← show c = 10 * N by omega]; exact h.1.2.2)]
  | succ d ih =>
    intro c f τ G R hc hf hs h
    obtain ⟨f, rfl⟩ : ∃ g, f = g + 1 := ⟨f - 1, by omega⟩
    have e60 : dnI A s c 60 = zI (N : Int) := (if_neg (by omega)).trans h60
    have e2 : zI (c : Int) + 10 = zI ((c + 10 : Nat) : Int) := zN_add c 10
    have e4 : dnI A s c (c + 10) = A (c + 10) := if_neg (by omega)
    rw [LL_law_393, ar_da h, bnd, ar_a60 h, bnd, h.1.2.2 60, e60, z10, if_neg (fun y => by have := (zN_le (by omega) (by omega)).mp y; omega), fl3, bnd, hl, if_neg (show ¬ ¬ zI ((0 : Nat) : Int) = 0 from fun y => y rfl), e2, ar_ia h (by omega), bnd, ar_na h, bnd, ar_ia h (by omega), bnd, stA_is τ (x + 42) _ _ h.1.2.2, h.1.2.2 (c + 10), e4, dnI_s A hs, zN_add1]
    have := ih (c + 1) f (wA τ (x + 42) (dnI A s (c + 1))) (by omega) (by omega) (by omega) (AR_a h (dnI A s (c + 1)))
    rw [wA_wA] at this
    exact this
theorem b_open {x N c f : Nat} {A : Nat → Int32} {o0 o1 o3 o4 : Option Nat} {o5 v57 o8 : Int32} {τ : St} {G R : Nat → Int32} (hN : N ≤ 6) (hc : c ≤ 60) (h60 : A 60 = zI (N : Int)) (hl : lowN v57 3 ≠ 0) (h : AR x τ A G R) : LL_law_393 (f + 1) o0 o1 (some (x + 42)) o3 o4 o5 v57 o8 (zI (c : Int)) τ = some τ := by
  have hl3 := lowN_lt v57 (n := 3) (by decide)
  rw [LL_law_393, ar_da h, bnd, ar_a60 h, bnd, h.1.2.2 60, h60, z10]
  by_cases q : 10 * N ≤ c
  · rw [if_pos ((zN_le (by omega) (by omega)).mpr q)]
  · rw [if_neg (fun y => q ((zN_le (by omega) (by omega)).mp y)), fl3, bnd, if_pos (mt (zN_0 (by omega)).mp hl)]
theorem b_cell {τ : St} {b L : Nat} (hk : hpK τ b = 20) (hL : hpL τ b = L) (hL2 : L ≤ 2048) (i : Nat) (hi : i ≤ 1000) : ∃ w, f_L_cell τ (some b) (zI (i : Int)) = some w := by
  rw [f_L_cell, dnA_eq20 hk, bnd, hL, nI_z]
  by_cases q : L ≤ i
  · exact ⟨_, if_pos ((zN_le (by omega) (by omega)).mpr q)⟩
  · rw [if_neg (fun y => q ((zN_le (by omega) (by omega)).mp y)), ix_l L i (by omega) (by omega), bnd]
    exact ⟨_, rfl⟩
theorem PA_put {A A' G : Nat → Int32} {P : PoT} {p : Nat} {l : LnT} (h : PA A G P) (hl : LM A' p l) (ho : ∀ j, j < 10 * p ∨ 10 * p + 8 ≤ j → A' j = A j) (hp : p < P.2.1) : PA A' G (putL P p l) := by
  obtain ⟨p1, p2, p3, pg⟩ := h
  refine ⟨p1, (ho 60 (by omega)).trans p2, fun k hk => ?_, pg⟩
  show LM A' k (if k = p then l else P.1 k)
  by_cases q : k = p
  · rw [if_pos q, q]; exact hl
  · rw [if_neg q]
    exact LM_sh (p3 k hk) (fun j hj => ho _ (by omega))
theorem LM_tg {A : Nat → Int32} {k : Nat} {l : LnT} (h : LM A k l) (b : Bool) : LM (upL A (10 * k + (if b = true then 6 else 7)) (zI ((if b = true then 1 - nHf l else 1 - nLa l : Nat) : Int))) k (tgL l b) := by
  obtain ⟨h1, h2, h3, h4, h5, h6, h7⟩ := h
  cases b with
  | true =>
    have e : ∀ j, j ≠ 10 * k + 6 → upL A (10 * k + (if true = true then 6 else 7)) (zI ((if true = true then 1 - nHf l else 1 - nLa l : Nat) : Int)) j = A j := fun j hj => if_neg hj
    exact ⟨(e _ (by omega)).trans h1, h2, h3, fun i hi => ⟨(e _ (by have : i < nCnt l := hi; omega)).trans (h4 i hi).1, (h4 i hi).2⟩, (e _ (by omega)).trans h5, if_pos rfl, (e _ (by omega)).trans h7⟩
  | false =>
    have e : ∀ j, j ≠ 10 * k + 7 → upL A (10 * k + (if false = true then 6 else 7)) (zI ((if false = true then 1 - nHf l else 1 - nLa l : Nat) : Int)) j = A j := fun j hj => if_neg hj
    exact ⟨(e _ (by omega)).trans h1, h2, h3, fun i hi => ⟨(e _ (by have : i < nCnt l := hi; omega)).trans (h4 i hi).1, (h4 i hi).2⟩, (e _ (by omega)).trans h5, (e _ (by omega)).trans h6, if_pos rfl⟩
theorem zq {q c : Nat} (h : q ≠ c) (hq : q ≤ 1000) (hc : c ≤ 1000) : ¬ zI (q : Int) = zI (c : Int) := fun y => h ((zN_eq (by omega) (by omega)).mp y)
theorem law_tail {b x u v n k f : Nat} {τ : St} {P : PoT} {T A G R : Nat → Int32} (W : WQ x τ u v P T n A G R) (pa : PA A G P) (hu : u ≤ NX) (hv : v ≤ SX) : ∃ τ' R', ((f_L_breaks τ (some (x + 42)) (some (x + 43)) (some (x + 44))).bind fun q164 =>
      if (1 : Int32) = 0 then
        some (.inl ((0 : Int32), q164))
      else
        (f_L_areLines q164 (some x) (some (x + 42)) (some (x + 44))).bind fun q167 =>
        if q167 = 0 then
          some (.inl (0, q164))
        else
          (f_L_areRows q164 (some x) (some (x + 42)) (some (x + 43)) (some (x + 44))).bind fun q170 =>
          if ¬ q170 = 0 then
            LL_law_122 f (some b) (some x) (some (x + 42)) (some (x + 43)) (some (x + 44)) (zI (k : Int) + 1) q164
          else
            some (.inl (0, q164))) = LL_law_122 f (some b) (some x) (some (x + 42)) (some (x + 43)) (some (x + 44)) (zI ((k + 1 : Nat) : Int)) τ' ∧ WQ x τ' u v P T n A G R' ∧ PZ x τ τ' := by
  obtain ⟨R', a1, a2⟩ := b_breaks pa (WQ_ok W) (WQ_A W)
  have W1 := WQ_r W R'
  obtain ⟨hs, c, K⟩ := WQ_Q W1 hu hv
  refine ⟨wA τ (x + 44) R', R', ?_, W1, PZ_wA τ R' (by omega)⟩
  rw [a1, bnd, if_neg (show ¬ (1 : Int32) = 0 by decide), b_areLines K (WQ_A W1) pa a2, bnd, if_neg (show ¬ (1 : Int32) = 0 by decide), b_areRows K (WQ_A W1) pa a2, bnd, if_pos (show ¬ (1 : Int32) = 0 by decide), zN_add1]
theorem law_step {b x L u v n k f : Nat} {τ : St} {P : PoT} {T A G R : Nat → Int32} (W : WQ x τ u v P T n A G R) (pa : PA A G P) (hu : u + 16 ≤ NX) (hv : v + 516 ≤ SX) (hb : hpK τ b = 20) (hL : hpL τ b = L) (hL2 : L ≤ 2048) (hk : k < 12) :
    ∃ τ' P' T' n' A' G' R', LL_law_122 (f + 1) (some b) (some x) (some (x + 42)) (some (x + 43)) (some (x + 44)) (zI (k : Int)) τ = LL_law_122 f (some b) (some x) (some (x + 42)) (some (x + 43)) (some (x + 44)) (zI ((k + 1 : Nat) : Int)) τ' ∧ WQ x τ' (u + 16) (v + 516) P' T' n' A' G' R' ∧ PA A' G' P' ∧ PZ x τ τ' := by
  obtain ⟨p1, p2, p3, pg⟩ := id pa
  have h := WQ_A W
  obtain ⟨v57, c1⟩ := b_cell hb hL hL2 (2 * k) (by omega)
  obtain ⟨v59, c2⟩ := b_cell hb hL hL2 (2 * k + 1) (by omega)
  have e2 : 2 * zI (k : Int) = zI ((2 * k : Nat) : Int) := by
    show zI 2 * zI (k : Int) = _
    rw [zI_mul]; congr 1
  have h12 : ¬ (12 : Int32) ≤ zI (k : Int) := fun y => by have := (zN_le (a := 12) (by omega) (by omega)).mp y; omega
  -- from the end of a case on
  have fin : ∀ (τ1 : St) (P' : PoT) (T' : Nat → Int32) (n' : Nat) (A' G' : Nat → Int32), WQ x τ1 (u + 16) (v + 516) P' T' n' A' G' R → PA A' G' P' → PZ x τ τ1 → ∃ τ' P' T' n' A' G' R', ((f_L_breaks τ1 (some (x + 42)) (some (x + 43)) (some (x + 44))).bind fun q164 =>
      if (1 : Int32) = 0 then
        some (.inl ((0 : Int32), q164))
      else
        (f_L_areLines q164 (some x) (some (x + 42)) (some (x + 44))).bind fun q167 =>
        if q167 = 0 then
          some (.inl (0, q164))
        else
          (f_L_areRows q164 (some x) (some (x + 42)) (some (x + 43)) (some (x + 44))).bind fun q170 =>
          if ¬ q170 = 0 then
            LL_law_122 f (some b) (some x) (some (x + 42)) (some (x + 43)) (some (x + 44)) (zI (k : Int) + 1) q164
          else
            some (.inl (0, q164))) = LL_law_122 f (some b) (some x) (some (x + 42)) (some (x + 43)) (some (x + 44)) (zI ((k + 1 : Nat) : Int)) τ' ∧ WQ x τ' (u + 16) (v + 516) P' T' n' A' G' R' ∧ PA A' G' P' ∧ PZ x τ τ' := by
    intro τ1 P' T' n' A' G' g1 g2 g3
    obtain ⟨τ', R', d1, d2, d3⟩ := law_tail (b := b) (k := k) (f := f) g1 g2 hu hv
    exact ⟨τ', P', T', n', A', G', R', d1, d2, g2, PZ_trans g3 d3⟩
  rw [LL_law_122, if_neg h12, e2, c1, bnd, zN_add1, c2, bnd, ar_da h, bnd, ar_a60 h, bnd, h.1.2.2 60, p2]
  by_cases hN : P.2.1 = 0
  · have nn0 : ¬ ¬ zI ((0 : Nat) : Int) = 0 := fun y => y rfl
    obtain ⟨τ1, P', T', n', A', i1, i2, i3, i4⟩ := b_inserts (p := 0) v57 (v59 >>> (1 &&& 31)) W pa (by omega) (by omega) (Nat.zero_le _)
    have i1' : f_L_inserts τ (some x) (some (x + 42)) 0 v57 (v59 >>> (1 &&& 31)) = some (1, τ1) := i1
    rw [hN, if_neg nn0, bnd, bnd, h.1.2.2 60, p2, hN, if_neg nn0, bnd, if_neg (show ¬ (9 : Int32) = 0 by decide), if_neg (show ¬ (9 : Int32) = 1 by decide), if_neg (show ¬ (9 : Int32) = 2 by decide), if_neg (show ¬ (9 : Int32) = 3 by decide), if_neg (show ¬ (9 : Int32) = 4 by decide), bnd, h.1.2.2 60, p2, hN, if_neg nn0, bnd, i1', bnd, bnd]
    exact fin τ1 P' T' n' A' G (WQ_mono i2 (by omega) (by omega)) i3 i4
  · have nnN : ¬ zI (P.2.1 : Int) = 0 := mt (zN_0 (by omega)).mp hN
    obtain ⟨li, hli⟩ : ∃ li, li = lowN v59 P.2.1 := ⟨_, rfl⟩
    have hl : li < P.2.1 := by rw [hli]; exact lowN_lt _ (by omega)
    obtain ⟨q, hq⟩ : ∃ q, q = lowN (v57 >>> (22 &&& 31)) 8 := ⟨_, rfl⟩
    have hq8 : q < 8 := by rw [hq]; exact lowN_lt _ (by decide)
    have f1 : f_L_low τ v59 (zI (P.2.1 : Int)) = some (zI (li : Int)) := by rw [(f_low τ v59 (by omega) (by omega)).1, ← hli]
    have e6 : zI ((10 * li : Nat) : Int) + 6 = zI ((10 * li + 6 : Nat) : Int) := zN_add (10 * li) 6
    have e7 : zI ((10 * li : Nat) : Int) + 7 = zI ((10 * li + 7 : Nat) : Int) := zN_add (10 * li) 7
    obtain ⟨l1, l2, l3, l4, l5, l6, l7⟩ := p3 li hl
    have okl := (WQ_ok W).2.1 li hl
    rw [if_pos nnN, bnd, h.1.2.2 60, p2, f1, bnd, bnd, bnd, h.1.2.2 60, p2, if_pos nnN, fl8, bnd, ← hq, bnd]
    by_cases q0 : q = 0
    · have tg : ∀ (bo : Bool) (r : Int32) (i : Nat), i = 10 * li + (if bo = true then 6 else 7) → ∃ τ1, f_X10_toggle (wA τ (x + 42) (upL A i (zI ((if bo = true then 1 - nHf (P.1 li) else 1 - nLa (P.1 li) : Nat) : Int)))) x (zI (li : Int)) (if bo = true then 1 else 0) = some (zI ((if bo = true then 1 - nHf (P.1 li) else 1 - nLa (P.1 li) : Nat) : Int), τ1) ∧ WQ x τ1 (u + 16) (v + 516) (putL P li (tgL (P.1 li) bo)) T n (upL A i (zI ((if bo = true then 1 - nHf (P.1 li) else 1 - nLa (P.1 li) : Nat) : Int))) G R ∧ PA (upL A i (zI ((if bo = true then 1 - nHf (P.1 li) else 1 - nLa (P.1 li) : Nat) : Int))) G (putL P li (tgL (P.1 li) bo)) ∧ PZ x τ τ1 := by
        intro bo r i hi
        subst hi
        have W1 := WQ_a W (upL A (10 * li + (if bo = true then 6 else 7)) (zI ((if bo = true then 1 - nHf (P.1 li) else 1 - nLa (P.1 li) : Nat) : Int)))
        obtain ⟨τ1, a1, a2, a3⟩ := z_toggle W1 (by omega) (by omega) hl bo
        exact ⟨τ1, a1, WQ_mono a2 (by omega) (by omega), PA_put pa (LM_tg (p3 li hl) bo) (fun j hj => if_neg (by cases bo <;> simp <;> omega)) hl, PZ_trans (PZ_wA τ _ (by omega)) a3⟩
      rw [q0, if_pos (show zI ((0 : Nat) : Int) = 0 from rfl), fl2, bnd]
      have hl2 := lowN_lt v57 (n := 2) (by decide)
      by_cases r0 : lowN v57 2 = 0
      · obtain ⟨τ1, a1, a2, a3, a4⟩ := tg true 0 (10 * li + 6) rfl
        have a1' : f_X10_toggle (wA τ (x + 42) (upL A (10 * li + 6) (zI ((1 - nHf (P.1 li) : Nat) : Int)))) x (zI (li : Int)) 1 = some (zI ((1 - nHf (P.1 li) : Nat) : Int), τ1) := a1
        have es : 1 - zI (nHf (P.1 li) : Int) = zI ((1 - nHf (P.1 li) : Nat) : Int) := zN_sub (a := 1) okl.2.2.2.2.2.1
        have h2 := WQ_A a2
        have W1 := WQ_a W (upL A (10 * li + 6) (zI ((1 - nHf (P.1 li) : Nat) : Int)))
        have eF : (upL A (10 * li + 6) (zI ((if true = true then 1 - nHf (P.1 li) else 1 - nLa (P.1 li) : Nat) : Int))) (10 * li + 6) = zI ((1 - nHf (P.1 li) : Nat) : Int) := if_pos rfl
        rw [r0, if_neg (show ¬ ¬ zI ((0 : Nat) : Int) = 0 from fun y => y rfl), bnd, z10, e6, ar_ia h (by omega), bnd, ar_na h, bnd, ar_ia h (by omega), bnd, if_neg (show ¬ ¬ (6 : Int32) = 6 from fun y => y rfl), bnd, stA_is τ (x + 42) _ _ h.1.2.2, h.1.2.2 (10 * li + 6), l6, es, WQ_x W1, bnd, a1', bnd, ar_da h2, bnd, ar_ia h2 (by omega), bnd, h2.1.2.2 (10 * li + 6), eF, if_neg nn, bnd, bnd]
        exact fin τ1 _ _ _ _ _ a2 a3 a4
      · obtain ⟨τ1, a1, a2, a3, a4⟩ := tg false 0 (10 * li + 7) rfl
        have a1' : f_X10_toggle (wA τ (x + 42) (upL A (10 * li + 7) (zI ((1 - nLa (P.1 li) : Nat) : Int)))) x (zI (li : Int)) 0 = some (zI ((1 - nLa (P.1 li) : Nat) : Int), τ1) := a1
        have es : 1 - zI (nLa (P.1 li) : Int) = zI ((1 - nLa (P.1 li) : Nat) : Int) := zN_sub (a := 1) okl.2.2.2.2.2.2
        have h2 := WQ_A a2
        have W1 := WQ_a W (upL A (10 * li + 7) (zI ((1 - nLa (P.1 li) : Nat) : Int)))
        have eF : (upL A (10 * li + 7) (zI ((if false = true then 1 - nHf (P.1 li) else 1 - nLa (P.1 li) : Nat) : Int))) (10 * li + 7) = zI ((1 - nLa (P.1 li) : Nat) : Int) := if_pos rfl
        rw [if_pos (mt (zN_0 (by omega)).mp r0), bnd, z10, e7, ar_ia h (by omega), bnd, ar_na h, bnd, ar_ia h (by omega), bnd, if_pos (show ¬ (7 : Int32) = 6 by decide), bnd, stA_is τ (x + 42) _ _ h.1.2.2, h.1.2.2 (10 * li + 7), l7, es, WQ_x W1, bnd, a1', bnd, ar_da h2, bnd, ar_ia h2 (by omega), bnd, h2.1.2.2 (10 * li + 7), eF, if_neg nn, bnd, bnd]
        exact fin τ1 _ _ _ _ _ a2 a3 a4
    · have n0 : ¬ zI (q : Int) = 0 := zq q0 (by omega) (by decide)
      rw [if_neg n0]
      by_cases q1 : q = 1
      · obtain ⟨τ1, T1, n1, A1, a1, a2, a3, a4, a5, a6⟩ := b_types v57 v59 W (by omega) (by omega) (show li < 6 by omega)
        obtain ⟨τ2, d1, d2, d3⟩ := z_replace a2 (by omega) (by omega) hl a3
        rw [q1, if_pos (show zI ((1 : Nat) : Int) = 1 from rfl), z10, ar_ia h (by omega), bnd, a1, bnd, if_neg (show ¬ (1 : Int32) = 0 by decide), WQ_x a2, bnd, d1, bnd, h.1.2.2 (10 * li), l1, if_neg nn, bnd, bnd]
        exact fin τ2 _ _ _ _ _ (WQ_mono d2 (by omega) (by omega)) (PA_put pa a4 a5 hl) (PZ_trans a6 d3)
      · have n1 : ¬ zI (q : Int) = 1 := zq q1 (by omega) (by decide)
        rw [if_neg n1]
        by_cases q2 : q = 2
        · obtain ⟨τ1, P', G', a1, a2, a3, a4⟩ := b_sets v57 W pa (by omega) (by omega)
          rw [q2, if_pos (show zI ((2 : Nat) : Int) = 2 from rfl), a1, bnd, bnd]
          exact fin τ1 _ _ _ _ _ a2 a3 a4
        · have n2 : ¬ zI (q : Int) = 2 := zq q2 (by omega) (by decide)
          rw [if_neg n2]
          by_cases q3 : q = 3
          · obtain ⟨τ1, P', G', a1, a2, a3, a4⟩ := b_sets v57 W pa (by omega) (by omega)
            rw [q3, if_pos (show zI ((3 : Nat) : Int) = 3 from rfl), a1, bnd, bnd]
            exact fin τ1 _ _ _ _ _ a2 a3 a4
          · have n3 : ¬ zI (q : Int) = 3 := zq q3 (by omega) (by decide)
            rw [if_neg n3]
            by_cases q4 : q = 4
            · rw [q4, if_pos (show zI ((4 : Nat) : Int) = 4 from rfl), bnd, fl3, bnd]
              have hl3 := lowN_lt v57 (n := 3) (by decide)
              by_cases r0 : lowN v57 3 = 0
              · have W1 := WQ_a W (upL A 60 (zI ((P.2.1 - 1 : Nat) : Int)))
                have h1 := WQ_A W1
                have g60 : upL A 60 (zI ((P.2.1 - 1 : Nat) : Int)) 60 = zI ((P.2.1 - 1 : Nat) : Int) := if_pos rfl
                have hcl := b_close (x := x) (s := 10 * li) (o0 := some b) (o1 := some x) (o3 := some (x + 43)) (o4 := some (x + 44)) (o5 := zI (k : Int)) (o8 := zI (li : Int)) (N := P.2.1 - 1) (by omega) g60 r0 (10 * (P.2.1 - 1) - 10 * li) (10 * li) FU (wA τ (x + 42) (upL A 60 (zI ((P.2.1 - 1 : Nat) : Int)))) (by omega) (by simp only [FU]; omega) (Nat.le_refl _) (by rw [dnI_0]; exact h1)
                rw [wA_wA] at hcl
                have W2 := WQ_a W (dnI (upL A 60 (zI ((P.2.1 - 1 : Nat) : Int))) (10 * li) (10 * (P.2.1 - 1)))
                have h2 := WQ_A W2
                obtain ⟨τ1, d1, d2, d3⟩ := z_remove W2 (by omega) (by omega) hl
                have h3 := WQ_A d2
                have z60 : dnI (upL A 60 (zI ((P.2.1 - 1 : Nat) : Int))) (10 * li) (10 * (P.2.1 - 1)) 60 = zI ((P.2.1 - 1 : Nat) : Int) := (if_neg (by omega)).trans g60
                rw [r0, if_neg (show ¬ ¬ zI ((0 : Nat) : Int) = 0 from fun y => y rfl), bnd, ar_na h, bnd, ar_a60 h, bnd, h.1.2.2 60, p2, zN_sub1 (by omega), stA_is τ (x + 42) _ _ h.1.2.2, z10, hcl, bnd, fl3, bnd, r0, if_neg (show ¬ (0 : Int32) < zI ((0 : Nat) : Int) by decide), WQ_x W2, bnd, d1, bnd, ar_da h3, bnd, ar_a60 h3, bnd, h3.1.2.2 60, z60, if_neg nn, bnd, bnd]
                refine fin τ1 _ _ _ _ _ (WQ_mono d2 (by omega) (by omega)) ⟨by show P.2.1 - 1 ≤ 6; omega, z60, fun m hm => ?_, pg⟩ (PZ_trans (PZ_wA τ _ (by omega)) d3)
                have hm : m < P.2.1 - 1 := hm
                show LM _ m (if m < li then P.1 m else P.1 (m + 1))
                by_cases y : m < li
                · rw [if_pos y]
                  exact LM_sh (p3 m (by omega)) (fun j hj => (if_neg (by omega)).trans (if_neg (by omega)))
                · rw [if_neg y]
                  refine LM_sh (p3 (m + 1) (by omega)) (fun j hj => (if_pos (by omega)).trans ((if_neg (by omega)).trans ?_))
                  congr 1; omega
              · have eA : upL A 60 (zI (P.2.1 : Int)) = A := by
                  funext j
                  show (if j = 60 then _ else A j) = A j
                  by_cases y : j = 60
                  · rw [if_pos y, y, p2]
                  · rw [if_neg y]
                have es : zI (P.2.1 : Int) - 0 = zI (P.2.1 : Int) := zN_sub (b := 0) (Nat.zero_le _)
                have hop := b_open (f := 999999) (c := 10 * li) (o0 := some b) (o1 := some x) (o3 := some (x + 43)) (o4 := some (x + 44)) (o5 := zI (k : Int)) (o8 := zI (li : Int)) p1 (by omega) p2 r0 h
                have hop' : LL_law_393 FU (some b) (some x) (some (x + 42)) (some (x + 43)) (some (x + 44)) (zI (k : Int)) v57 (zI (li : Int)) (zI ((10 * li : Nat) : Int)) τ = some τ := hop
                have hpos : (0 : Int32) < zI (lowN v57 3 : Int) := (zN_lt (a := 0) (by omega) (by omega)).mpr (by omega)
                rw [if_pos (mt (zN_0 (by omega)).mp r0), bnd, ar_na h, bnd, ar_a60 h, bnd, h.1.2.2 60, p2, es, stA_is τ (x + 42) _ _ h.1.2.2, eA, wA_self τ (x + 42) A h.1.2.2, z10, hop', bnd, fl3, bnd, if_pos hpos, bnd, bnd]
                exact fin τ _ _ _ _ _ (WQ_mono W (by omega) (by omega)) pa (PZ_refl _ _)
            · have n4 : ¬ zI (q : Int) = 4 := zq q4 (by omega) (by decide)
              have f2 : f_L_low τ v59 (zI ((P.2.1 + 1 : Nat) : Int)) = some (zI (lowN v59 (P.2.1 + 1) : Int)) := (f_low τ v59 (by omega) (by omega)).1
              have hp := lowN_lt v59 (n := P.2.1 + 1) (by omega)
              obtain ⟨τ1, P', T', n', A', i1, i2, i3, i4⟩ := b_inserts (p := lowN v59 (P.2.1 + 1)) v57 (v59 >>> (1 &&& 31)) W pa (by omega) (by omega) (by omega)
              rw [if_neg n4, bnd, h.1.2.2 60, p2, if_pos nnN, bnd, h.1.2.2 60, p2, zN_add1, f2, bnd, bnd, i1, bnd, bnd]
              exact fin τ1 P' T' n' A' G (WQ_mono i2 (by omega) (by omega)) i3 i4
set_option maxRecDepth 100000 in
theorem law_loop {b x L : Nat} (hb : b < x) (hL2 : L ≤ 2048) : ∀ (d k f u v n : Nat) (τ : St) (P : PoT) (T A G R : Nat → Int32), k + d = 12 → d < f → u + 16 * d ≤ NX → v + 516 * d ≤ SX → WQ x τ u v P T n A G R → PA A G P → hpK τ b = 20 → hpL τ b = L → ∃ ρ, LL_law_122 f (some b) (some x) (some (x + 42)) (some (x + 43)) (some (x + 44)) (zI (k : Int)) τ = some (.inr ρ) := by
  intro d
  induction d with
  | zero =>
    intro k f u v n τ P T A G R hk hf hu hv W pa hbk hbl
    obtain ⟨f, rfl⟩ : ∃ g, f = g + 1 := ⟨f - 1, by omega⟩
    have h12 : (12 : Int32) ≤ zI (k : Int) := (zN_le (a := 12) (by omega) (by omega)).mpr (by omega)
    exact ⟨τ, by rw [LL_law_122, if_pos h12]⟩
  | succ d ih =>
    intro k f u v n τ P T A G R hk hf hu hv W pa hbk hbl
    obtain ⟨f, rfl⟩ : ∃ g, f = g + 1 := ⟨f - 1, by omega⟩
    have h1 : u + 16 ≤ NX := Nat.le_trans (by omega) hu
    have h2 : v + 516 ≤ SX := Nat.le_trans (by omega) hv
    have h3 : u + 16 + 16 * d ≤ NX := Nat.le_trans (by omega) hu
    have h4 : v + 516 + 516 * d ≤ SX := Nat.le_trans (by omega) hv
    have h5 : k < 12 := by omega
    obtain ⟨τ', P', T', n', A', G', R', a1, a2, a3, a4⟩ := law_step (f := f) W pa h1 h2 hbk hbl hL2 h5
    obtain ⟨ρ, hρ⟩ := ih (k + 1) f (u + 16) (v + 516) n' τ' P' T' A' G' R' (by omega) (by omega) h3 h4 a2 a3 ((a4 b hb).1.trans hbk) ((a4 b hb).2.1.trans hbl)
    exact ⟨ρ, a1.trans hρ⟩

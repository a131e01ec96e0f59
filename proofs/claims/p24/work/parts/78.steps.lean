-- the law inserts and sets
theorem LM_sh {A A' : Nat → Int32} {k k' : Nat} {l : LnT} (h : LM A k l) (e : ∀ j, j < 8 → A' (10 * k' + j) = A (10 * k + j)) : LM A' k' l := by
  obtain ⟨h1, h2, h3, h4, h5, h6, h7⟩ := h
  refine ⟨(e 0 (by decide)).trans h1, h2, h3, fun i hi => ⟨?_, (h4 i hi).2⟩, (e 5 (by decide)).trans h5, (e 6 (by decide)).trans h6, (e 7 (by decide)).trans h7⟩
  have := e (1 + i) (by omega)
  rw [show 10 * k' + 1 + i = 10 * k' + (1 + i) by omega, this, show 10 * k + (1 + i) = 10 * k + 1 + i by omega]
  exact (h4 i hi).1
def shI (A : Nat → Int32) (c N : Nat) : Nat → Int32 := fun j => if 10 + c ≤ j ∧ j < N + 10 then A (j - 10) else A j
theorem shI_all (A : Nat → Int32) (N : Nat) : shI A N N = A := by
  funext j
  exact if_neg (by omega)
theorem shI_s (A : Nat → Int32) {c N : Nat} (h : c < N) : upL (shI A (c + 1) N) (c + 10) (A c) = shI A c N := by
  funext j
  show (if j = c + 10 then A c else if 10 + (c + 1) ≤ j ∧ j < N + 10 then A (j - 10) else A j) = if 10 + c ≤ j ∧ j < N + 10 then A (j - 10) else A j
  by_cases q : j = c + 10
  · subst q
    rw [if_pos rfl, if_pos (by omega), Nat.add_sub_cancel]
  · rw [if_neg q]
    by_cases z : 10 + (c + 1) ≤ j ∧ j < N + 10
    · rw [if_pos z, if_pos (by omega)]
    · rw [if_neg z, if_neg (by omega)]
theorem b_shift {x p N : Nat} {A : Nat → Int32} {o0 : Option Nat} {p4 p5 : Int32} (hN : N ≤ 50) : ∀ (d c f : Nat) (τ : St) {G R : Nat → Int32}, c = 10 * p + d → d < f → c ≤ N → AR x τ (shI A c N) G R → LL_inserts_37 f o0 (some (x + 42)) (zI (p : Int)) p4 p5 (zI ((c : Int) - 1)) τ = some (wA τ (x + 42) (shI A (10 * p) N)) := by
  intro d
  induction d with
  | zero =>
    intro c f τ G R hc hf hcN h
    obtain ⟨f, rfl⟩ : ∃ g, f = g + 1 := ⟨f - 1, by omega⟩
    have hlt : zI ((c : Int) - 1) < zI ((10 * p : Nat) : Int) := by rw [zI_lt (by omega) (by omega) (by omega) (by omega)]; omega
    rw [LL_inserts_37, z10, if_pos hlt, wA_self τ (x + 42) _ (by rw [← show c = 10 * p by omega]; exact h.1.2.2)]
  | succ d ih =>
    intro c f τ G R hc hf hcN h
    obtain ⟨f, rfl⟩ : ∃ g, f = g + 1 := ⟨f - 1, by omega⟩
    obtain ⟨c, rfl⟩ : ∃ g, c = g + 1 := ⟨c - 1, by omega⟩
    have e1 : zI (((c + 1 : Nat) : Int) - 1) = zI (c : Int) := by congr 1; omega
    have hnl : ¬ zI (c : Int) < zI ((10 * p : Nat) : Int) := fun y => by have := (zN_lt (by omega) (by omega)).mp y; omega
    have e2 : zI (c : Int) + 10 = zI ((c + 10 : Nat) : Int) := zN_add c 10
    have e3 : zI (c : Int) + (-1) = zI ((c : Int) - 1) := by
      show zI (c : Int) + zI (-1) = _
      rw [zI_add]; congr 1
    have e4 : shI A (c + 1) N c = A c := if_neg (by omega)
    rw [LL_inserts_37, e1, z10, if_neg hnl, ar_da h, bnd, ar_ia h (by omega), bnd, ar_na h, bnd, e2, ar_ia h (by omega), bnd, stA_is τ (x + 42) _ _ h.1.2.2, h.1.2.2 c, e4, shI_s A (by omega), e3]
    have := ih c f (wA τ (x + 42) (shI A c N)) (by omega) (by omega) (by omega) (AR_a h (shI A c N))
    rw [wA_wA] at this
    exact this
theorem b_inserts {x u v n p : Nat} {σ : St} {P : PoT} {T A G R : Nat → Int32} (p4 p5 : Int32) (W : WQ x σ u v P T n A G R) (pa : PA A G P) (hu : u + 4 ≤ NX) (hv : v + 129 ≤ SX) (hp : p ≤ P.2.1) :
    ∃ τ P' T' n' A', f_L_inserts σ (some x) (some (x + 42)) (zI (p : Int)) p4 p5 = some (1, τ) ∧ WQ x τ (u + 4) (v + 129) P' T' n' A' G R ∧ PA A' G P' ∧ PZ x σ τ := by
  obtain ⟨p1, p2, p3, pg⟩ := id pa
  have h := WQ_A W
  by_cases q : P.2.1 = 6
  · obtain ⟨τ, a1, a2, a3⟩ := z_insertBad W hu hv (p := 7) (by omega) (by decide)
    have a1' : f_X10_insert σ x 7 = some (-2, τ) := a1
    refine ⟨τ, P, T, n, A, ?_, a2, pa, a3⟩
    rw [f_L_inserts, ar_da h, bnd, ar_a60 h, bnd, h.1.2.2 60, p2, if_neg (fun y => y (by rw [q]; rfl)), WQ_x W, bnd, a1', bnd, if_neg nn]
  · have hne : ¬ zI (P.2.1 : Int) = 6 := fun y => q ((zN_eq (b := 6) (by omega) (by omega)).mp y)
    have hsh := b_shift (x := x) (p := p) (N := 10 * P.2.1) (A := A) (o0 := some x) (p4 := p4) (p5 := p5) (by omega) (10 * P.2.1 - 10 * p) (10 * P.2.1) FU σ (by omega) (by simp only [FU]; omega) (Nat.le_refl _) (by rw [shI_all]; exact h)
    have W1 := WQ_a W (shI A (10 * p) (10 * P.2.1))
    have h1 := WQ_A W1
    have e60 : shI A (10 * p) (10 * P.2.1) 60 = zI (P.2.1 : Int) := (if_neg (by omega)).trans p2
    have W2 := WQ_a W1 (upL (shI A (10 * p) (10 * P.2.1)) 60 (zI ((P.2.1 + 1 : Nat) : Int)))
    rw [wA_wA] at W2
    obtain ⟨τ1, T1, n1, A1, b1, b2, b3, b4, b5, b6⟩ := b_types p4 p5 W2 (by omega) (by omega) (show p < 6 by omega)
    obtain ⟨τ2, c1, c2, c3⟩ := z_insert b2 hu hv hp (by omega) b3
    have h2 := WQ_A c2
    have e1 : zI ((10 * P.2.1 : Nat) : Int) - 1 = zI (((10 * P.2.1 : Nat) : Int) - 1) := by
      show zI ((10 * P.2.1 : Nat) : Int) - zI 1 = _
      rw [zI_sub]
    have a60 : A1 60 = zI ((P.2.1 + 1 : Nat) : Int) := (b5 60 (by omega)).trans (if_pos rfl)
    refine ⟨τ2, insP P p (lnT T1 n1), T1, n1, A1, ?_, c2, ⟨by show P.2.1 + 1 ≤ 6; omega, a60, fun k hk => ?_, pg⟩, PZ_trans (PZ_wA σ _ (by omega)) (PZ_trans b6 c3)⟩
    · rw [f_L_inserts, ar_da h, bnd, ar_a60 h, bnd, h.1.2.2 60, p2, if_pos hne, bnd, h.1.2.2 60, p2, z10, e1, hsh, bnd, ar_da h1, bnd, ar_a60 h1, bnd, ar_na h1, bnd, ar_a60 h1, bnd, stA_wA, h1.1.2.2 60, e60, zN_add1, b1, bnd, if_neg (show ¬ (1 : Int32) = 0 by decide), WQ_x b2, bnd, c1, bnd, ar_da h2, bnd, ar_a60 h2, bnd, h2.1.2.2 60, a60, if_neg nn]
    · have hk : k < P.2.1 + 1 := hk
      show LM A1 k (if k < p then P.1 k else if k = p then lnT T1 n1 else P.1 (k - 1))
      by_cases z : k < p
      · rw [if_pos z]
        refine LM_sh (p3 k (by omega)) (fun j hj => ?_)
        rw [b5 _ (by omega)]
        exact (if_neg (by omega)).trans (if_neg (by omega))
      · rw [if_neg z]
        by_cases y : k = p
        · rw [if_pos y, y]; exact b4
        · rw [if_neg y]
          refine LM_sh (p3 (k - 1) (by omega)) (fun j hj => ?_)
          rw [b5 _ (by omega)]
          refine (if_neg (by omega)).trans ((if_pos (by omega)).trans ?_)
          congr 1; omega
theorem sLH {i : Nat} : sLo i ≤ sHi i ∧ sHi i ≤ 60 := by
  unfold sLo sHi
  by_cases a : i = 0
  · subst a; decide
  · by_cases b : i = 1
    · subst b; decide
    · rw [if_neg a, if_neg b, if_neg a]
      split
      · omega
      · split <;> omega
theorem t_lo (w : Nat) (h : w < 5) : ((if ¬ zI (w : Int) = 0 then if ¬ zI (w : Int) = 1 then some 0 else some 4 else some 12) : Option Int32) = some (zI (sLo w : Int)) := by
  match w, h with
  | 0, _ => rfl
  | 1, _ => rfl
  | 2, _ => rfl
  | 3, _ => rfl
  | 4, _ => rfl
theorem t_hi (w : Nat) (h : w < 5) : ((if ¬ zI (w : Int) = 0 then if ¬ zI (w : Int) = 2 then if ¬ zI (w : Int) = 3 then some 30 else some 8 else some 6 else some 60) : Option Int32) = some (zI (sHi w : Int)) := by
  match w, h with
  | 0, _ => rfl
  | 1, _ => rfl
  | 2, _ => rfl
  | 3, _ => rfl
  | 4, _ => rfl
theorem b_sets {x u v n : Nat} {σ : St} {P : PoT} {T A G R : Nat → Int32} (p3' : Int32) (W : WQ x σ u v P T n A G R) (pa : PA A G P) (hu : u + 16 ≤ NX) (hv : v + 516 ≤ SX) :
    ∃ τ P' G', f_L_sets σ (some x) (some (x + 43)) p3' = some (1, τ) ∧ WQ x τ (u + 16) (v + 516) P' T n A G' R ∧ PA A G' P' ∧ PZ x σ τ := by
  obtain ⟨p1, p2, p3, pg⟩ := id pa
  have h := WQ_A W
  obtain ⟨w, hw⟩ : ∃ w, w = lowN p3' 5 := ⟨_, rfl⟩
  have hw5 : w < 5 := by rw [hw]; exact lowN_lt _ (by decide)
  have hlh := sLH (i := w)
  have er : zI (sHi w : Int) - zI (sLo w : Int) + 1 = zI ((sHi w - sLo w + 1 : Nat) : Int) := by
    rw [zN_sub (by omega), zN_add1]
  obtain ⟨y, hy⟩ : ∃ y, y = lowN (p3' >>> (3 &&& 31)) (sHi w - sLo w + 1) := ⟨_, rfl⟩
  have hyl : y < sHi w - sLo w + 1 := by rw [hy]; exact lowN_lt _ (by omega)
  have q14 : ∀ S : St, f_L_low S (p3' >>> (3 &&& 31)) (zI ((sHi w - sLo w + 1 : Nat) : Int)) = some (zI (y : Int)) := fun S => by rw [(f_low S _ (by omega) (by omega)).1, hy]
  have W1 := WQ_g W (upL G w (zI ((sLo w + y : Nat) : Int)))
  have h1 := WQ_A W1
  have eg : upL G w (zI ((sLo w + y : Nat) : Int)) w = zI ((sLo w + y : Nat) : Int) := if_pos rfl
  obtain ⟨τ1, a1, a2, a3⟩ := z_set W1 (by omega) (by omega) hw5 (show sLo w ≤ sLo w + y by omega) (by omega)
  obtain ⟨τ2, b1, b2, b3⟩ := z_setBad a2 (by omega) (by omega) (i := w) (w := ((sHi w + 1 : Nat) : Int)) (by omega) (by omega) (by omega) (by omega)
  obtain ⟨τ3, c1, c2, c3⟩ := z_setBad b2 (by omega) (by omega) (i := w) (w := (sLo w : Int) - 1) (by omega) (by omega) (by omega) (by omega)
  obtain ⟨τ4, d1, d2, d3⟩ := z_setBad c2 (by omega) (by omega) (i := 5) (w := 10) (by omega) (by omega) (by omega) (by omega)
  have d1' : f_X10_set τ3 x 5 10 = some (-2, τ4) := d1
  have eh : zI (sHi w : Int) + 1 = zI ((sHi w + 1 : Nat) : Int) := zN_add1 _
  have el : zI (sLo w : Int) - 1 = zI ((sLo w : Int) - 1) := by
    show zI (sLo w : Int) - zI 1 = _
    rw [zI_sub]
  refine ⟨τ4, setP P w (sLo w + y), upL G w (zI ((sLo w + y : Nat) : Int)), ?_, WQ_mono d2 (by omega) (by omega), ⟨p1, p2, p3, fun i hi => ?_⟩, PZ_trans (PZ_wA σ _ (by omega)) (PZ_trans a3 (PZ_trans b3 (PZ_trans c3 d3)))⟩
  · rw [f_L_sets, fl5, bnd, ← hw, t_lo w hw5, bnd, t_hi w hw5, bnd, ar_dg h, bnd, ar_ig h hw5, bnd, er, q14, bnd, ar_ng h, bnd, ar_ig h hw5, bnd, stA_is σ (x + 43) _ _ h.2.1.2.2, zN_add, ar_ig h1 hw5, bnd, WQ_x W1, bnd, h1.2.1.2.2 w, eg, a1, bnd, h.2.1.2.2 w, pg w hw5, if_neg nn, WQ_x a2, bnd, eh, b1, bnd, if_neg nn, WQ_x b2, bnd, el, c1, bnd, if_neg nn, WQ_x c2, bnd, d1', bnd, if_neg nn]
  · show (if i = w then _ else G i) = zI ((upN P.2.2 w (sLo w + y) i : Nat) : Int)
    by_cases q : i = w
    · rw [if_pos q, q]
      show _ = zI ((if w = w then sLo w + y else P.2.2 w : Nat) : Int)
      rw [if_pos rfl]
    · rw [if_neg q, pg i hi]
      show _ = zI ((if i = w then sLo w + y else P.2.2 i : Nat) : Int)
      rw [if_neg q]

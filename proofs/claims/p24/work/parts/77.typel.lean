-- the law types a line: all of it
theorem fl2 (σ : St) (v : Int32) : f_L_low σ v 2 = some (zI (lowN v 2 : Int)) := (f_low σ v (n := 2) (by decide) (by decide)).1
theorem fl3 (σ : St) (v : Int32) : f_L_low σ v 3 = some (zI (lowN v 3 : Int)) := (f_low σ v (n := 3) (by decide) (by decide)).1
theorem fl4 (σ : St) (v : Int32) : f_L_low σ v 4 = some (zI (lowN v 4 : Int)) := (f_low σ v (n := 4) (by decide) (by decide)).1
theorem fl5 (σ : St) (v : Int32) : f_L_low σ v 5 = some (zI (lowN v 5 : Int)) := (f_low σ v (n := 5) (by decide) (by decide)).1
theorem fl6 (σ : St) (v : Int32) : f_L_low σ v 6 = some (zI (lowN v 6 : Int)) := (f_low σ v (n := 6) (by decide) (by decide)).1
theorem fl8 (σ : St) (v : Int32) : f_L_low σ v 8 = some (zI (lowN v 8 : Int)) := (f_low σ v (n := 8) (by decide) (by decide)).1
theorem fl20 (σ : St) (v : Int32) : f_L_low σ v 20 = some (zI (lowN v 20 : Int)) := (f_low σ v (n := 20) (by decide) (by decide)).1
theorem lowN_lt (v : Int32) {n : Nat} (h : 0 < n) : lowN v n < n := Nat.mod_lt _ h
theorem t_b (a : Nat) (h : a ≤ 2147483647) : ((if ¬ zI (a : Int) = 0 then some 0 else some 1) : Option Int32) = some (zI ((if a = 0 then 1 else 0 : Nat) : Int)) := by
  by_cases q : a = 0
  · rw [if_neg (fun y => y ((zN_0 h).mpr q)), if_pos q]; rfl
  · rw [if_pos (mt (zN_0 h).mp q), if_neg q]; rfl
theorem WT_LM {T A : Nat → Int32} {n m hf st k cnt : Nat} {E : Nat → Nat} (h : WT T n m hf st E (cnt - 1) (E (cnt - 1))) (hc : 1 ≤ cnt) (hc3 : cnt ≤ 3) (hE : ∀ j, 1 ≤ E j ∧ E j ≤ 16) (a0 : A (10 * k) = zI (cnt : Int)) (a1 : ∀ j, j < cnt → A (10 * k + 1 + j) = zI (E j : Int)) (a5 : A (10 * k + 5) = zI (st : Int)) (a6 : A (10 * k + 6) = zI (hf : Int)) :
    (A (10 * k + 7) = zI ((0 : Nat) : Int) → LM A k (lnT T n)) ∧ (A (10 * k + 7) = zI ((1 : Nat) : Int) → LM A k (lnT (upL T n 47) (n + 1))) := by
  obtain ⟨e, hm, _, h5, h6, ⟨h7, h8, h9, h10, h11⟩, h12⟩ := h
  have e1 := hE (cnt - 1)
  have c1 : cntP T n = cnt := by rw [h7, if_neg (by omega)]; omega
  have c2 : ∀ j, j < cnt → lnP T n j = E j := fun j hj => by
    rw [h11]
    by_cases q : j < cnt - 1
    · rw [if_pos q]
    · have : j = cnt - 1 := by omega
      subst this
      rw [if_neg q, if_pos rfl]
  obtain ⟨u1, u2⟩ := up_no T n il47
  constructor
  · intro a7
    refine ⟨a0.trans (by rw [← c1]; rfl), by show 1 ≤ cntP T n; omega, by show cntP T n ≤ 3; omega, fun i hi => ?_, a5.trans (by rw [← h8]; rfl), a6.trans (by rw [← h9]; rfl), a7.trans (by rw [← h10]; rfl)⟩
    have hi' : i < cnt := by have : i < cntP T n := hi; omega
    have hE' := hE i
    refine ⟨(a1 i hi').trans ?_, ?_, ?_⟩
    · show _ = zI (lnP T n i : Int)
      rw [c2 i hi']
    · show 1 ≤ lnP T n i
      rw [c2 i hi']; exact hE'.1
    · show lnP T n i ≤ 16
      rw [c2 i hi']; exact hE'.2
  · intro a7
    refine ⟨a0.trans ?_, ?_, ?_, fun i hi => ?_, a5.trans ?_, a6.trans ?_, a7.trans ?_⟩
    · show _ = zI (cntP (upL T n 47) (n + 1) : Int)
      rw [u1, c1]
    · show 1 ≤ cntP (upL T n 47) (n + 1)
      rw [u1, c1]; exact hc
    · show cntP (upL T n 47) (n + 1) ≤ 3
      rw [u1, c1]; exact hc3
    · have hi' : i < cnt := by
        have : i < cntP (upL T n 47) (n + 1) := hi
        rw [u1, c1] at this; exact this
      have hE' := hE i
      refine ⟨(a1 i hi').trans ?_, ?_, ?_⟩
      · show _ = zI (lnP (upL T n 47) (n + 1) i : Int)
        rw [u2, c2 i hi']
      · show 1 ≤ lnP (upL T n 47) (n + 1) i
        rw [u2, c2 i hi']; exact hE'.1
      · show lnP (upL T n 47) (n + 1) i ≤ 16
        rw [u2, c2 i hi']; exact hE'.2
    · show _ = zI (sgP (upL T n 47) 62 (n + 1) : Int)
      rw [(up_sg T n 47 62).1, if_neg (by decide), h8]
    · show _ = zI (anP (upL T n 47) 126 (n + 1) : Int)
      rw [(up_sg T n 47 126).2, if_neg (by decide), h9]
    · show _ = zI (anP (upL T n 47) 47 (n + 1) : Int)
      rw [(up_sg T n 47 47).2, if_pos rfl]
theorem b_types {x u v n k : Nat} {σ : St} {P : PoT} {T A G R : Nat → Int32} (p4 p5 : Int32) (W : WQ x σ u v P T n A G R) (hu : u ≤ NX) (hv : v ≤ SX) (hk : k < 6) :
    ∃ τ T' n' A', f_L_types σ (some x) (some (x + 42)) (zI (k : Int)) p4 p5 = some (1, τ) ∧ WQ x τ u v P T' n' A' G R ∧ Flt T' n' = -1 ∧ LM A' k (lnT T' n') ∧ (∀ j, j < 10 * k ∨ 10 * k + 8 ≤ j → A' j = A j) ∧ PZ x σ τ := by
  obtain ⟨τ0, c1, W0, z0⟩ := z_clear W
  have hn80 := WQ_n W
  have h0 := WQ_A W0
  obtain ⟨hf, ehf⟩ : ∃ hf : Nat, hf = if lowN p4 3 = 0 then 1 else 0 := ⟨_, rfl⟩
  obtain ⟨st, est⟩ : ∃ st : Nat, st = if lowN (p4 >>> (2 &&& 31)) 4 = 0 then lowN (p4 >>> (4 &&& 31)) 6 else 0 := ⟨_, rfl⟩
  obtain ⟨cnt, ecn⟩ : ∃ cnt : Nat, cnt = 1 + lowN (p4 >>> (7 &&& 31)) 3 := ⟨_, rfl⟩
  obtain ⟨b, eb⟩ : ∃ b : Nat, b = lowN (p4 >>> (9 &&& 31)) 20 := ⟨_, rfl⟩
  obtain ⟨la, ela⟩ : ∃ la : Nat, la = if lowN (p4 >>> (14 &&& 31)) 3 = 0 then 1 else 0 := ⟨_, rfl⟩
  have l3 : ∀ v, lowN v 3 < 3 := fun v => lowN_lt v (by decide)
  have l4 : ∀ v, lowN v 4 < 4 := fun v => lowN_lt v (by decide)
  have l6 : ∀ v, lowN v 6 < 6 := fun v => lowN_lt v (by decide)
  have l20 : ∀ v, lowN v 20 < 20 := fun v => lowN_lt v (by decide)
  have b1 : hf ≤ 1 := by rw [ehf]; split <;> omega
  have b2 : st ≤ 5 := by have := l6 (p4 >>> (4 &&& 31)); rw [est]; split <;> omega
  have b3 : 1 ≤ cnt ∧ cnt ≤ 3 := by have := l3 (p4 >>> (7 &&& 31)); omega
  have b4 : b < 20 := by rw [eb]; exact l20 _
  have b5 : la = 0 ∨ la = 1 := by rw [ela]; split <;> simp
  obtain ⟨F, eF⟩ : ∃ F, F = upL (upL (upL (upL (upL A (10 * k + 6) (zI (hf : Int))) (10 * k + 5) (zI (st : Int))) (10 * k) (zI (cnt : Int))) (10 * k + 4) (zI (b : Int))) (10 * k + 7) (zI (la : Int)) := ⟨_, rfl⟩
  have f6 : F (10 * k + 6) = zI (hf : Int) := by
    rw [eF]
    show (if 10 * k + 6 = 10 * k + 7 then _ else if 10 * k + 6 = 10 * k + 4 then _ else if 10 * k + 6 = 10 * k then _ else if 10 * k + 6 = 10 * k + 5 then _ else if 10 * k + 6 = 10 * k + 6 then _ else _) = _
    rw [if_neg (by omega), if_neg (by omega), if_neg (by omega), if_neg (by omega), if_pos rfl]
  have f5 : F (10 * k + 5) = zI (st : Int) := by
    rw [eF]
    show (if 10 * k + 5 = 10 * k + 7 then _ else if 10 * k + 5 = 10 * k + 4 then _ else if 10 * k + 5 = 10 * k then _ else if 10 * k + 5 = 10 * k + 5 then _ else _) = _
    rw [if_neg (by omega), if_neg (by omega), if_neg (by omega), if_pos rfl]
  have f0 : F (10 * k) = zI (cnt : Int) := by
    rw [eF]
    show (if 10 * k = 10 * k + 7 then _ else if 10 * k = 10 * k + 4 then _ else if 10 * k = 10 * k then _ else _) = _
    rw [if_neg (by omega), if_neg (by omega), if_pos rfl]
  have f4 : F (10 * k + 4) = zI (b : Int) := by
    rw [eF]
    show (if 10 * k + 4 = 10 * k + 7 then _ else if 10 * k + 4 = 10 * k + 4 then _ else _) = _
    rw [if_neg (by omega), if_pos rfl]
  have f7 : F (10 * k + 7) = zI (la : Int) := by rw [eF]; exact if_pos rfl
  have fo : ∀ j, j < 10 * k ∨ 10 * k + 8 ≤ j → F j = A j := by
    intro j hj
    rw [eF]
    show (if j = 10 * k + 7 then _ else if j = 10 * k + 4 then _ else if j = 10 * k then _ else if j = 10 * k + 5 then _ else if j = 10 * k + 6 then _ else _) = _
    rw [if_neg (by omega), if_neg (by omega), if_neg (by omega), if_neg (by omega), if_neg (by omega)]
  have W5 := WQ_a W0 F
  have h5 := WQ_A W5
  have hX : ∃ τ1 T1 n1, ((if hpA (wA τ0 (x + 42) F) (x + 42) (10 * k + 6) = 0 then some (1, wA τ0 (x + 42) F) else
      (f_X10_type (wA τ0 (x + 42) F) x 126).bind fun q46 => if q46.1 ≤ 0 then some (0, q46.2) else some (1, q46.2)) : Option (Int32 × St)) = some (1, τ1) ∧ WQ x τ1 u v P T1 n1 F G R ∧ HT T1 n1 hf 0 ∧ n1 ≤ hf ∧ PZ x τ0 τ1 := by
    rw [h5.1.2.2, f6]
    by_cases q : hf = 0
    · refine ⟨_, T, 0, if_pos ((zN_0 (by omega)).mpr q), W5, by rw [q]; exact HT_0 T, by omega, PZ_wA τ0 F (by omega)⟩
    · obtain ⟨τ1, a1, a2, a3⟩ := z_type W5 (by decide) 126 (by decide)
      have a1' : f_X10_type (wA τ0 (x + 42) F) x 126 = some (zI ((0 + 1 : Nat) : Int), τ1) := a1
      refine ⟨τ1, _, 1, ?_, a2, by rw [show hf = 1 by omega]; exact HT_1 T, by omega, PZ_trans (PZ_wA τ0 F (by omega)) a3⟩
      rw [if_neg (mt (zN_0 (by omega)).mp q), a1', bnd, if_neg (pos_0 (by decide))]
  obtain ⟨τ1, T1, n1, x1, x2, x3, x4, x5⟩ := hX
  obtain ⟨τ2, T2, n2, y1, y2, y3, y4, y5⟩ := b_steps (p4 := p4) (p5 := p5) hk f5 b2 b1 st 0 FU τ1 T1 n1 (by omega) (by simp only [FU]; omega) x2 x3 (by omega)
  have y1' : LL_types_160 FU (some x) (some (x + 42)) (zI (k : Int)) p4 p5 1 0 τ1 = some (1, τ2) := y1
  obtain ⟨τ3, T3, n3, A3, w1, w2, w3, w4, w5, w6⟩ := b_wds (p4 := p4) (p5 := p5) (m := n2 + 1) (hf := hf) (st := st) hu hv hk b4 b3.2 (by omega) b2 cnt 0 FU τ2 T2 n2 F (by omega) (by simp only [FU]; omega) y2 ⟨fun _ => ⟨y3, rfl⟩, fun q => absurd q (by omega)⟩ f0 f4 (fun j hj => absurd hj (Nat.not_lt_zero j))
  have w1' : LL_types_222 FU (some x) (some (x + 42)) (zI (k : Int)) p4 p5 1 0 τ2 = some (1, τ3) := w1
  have hW3 := w3.2 (by omega)
  have h3 := WQ_A w2
  have hE := eeN_b p4 p5
  have g7 : A3 (10 * k + 7) = zI (la : Int) := (w5 _ (by omega)).trans f7
  have hLM := WT_LM (A := A3) (k := k) hW3 b3.1 b3.2 hE ((w5 _ (by omega)).trans f0) w4 ((w5 _ (by omega)).trans f5) ((w5 _ (by omega)).trans f6)
  have ho : ∀ j, j < 10 * k ∨ 10 * k + 8 ≤ j → A3 j = A j := fun j hj => (w5 j (by omega)).trans (fo j hj)
  have hz3 : PZ x σ τ3 := PZ_trans z0 (PZ_trans x5 (PZ_trans y5 w6))
  have e0 : (10 * k + 7 : Nat) < 64 := by omega
  have e4 : zI ((10 * k : Nat) : Int) + 4 = zI ((10 * k + 4 : Nat) : Int) := zN_add (10 * k) 4
  have e5 : zI ((10 * k : Nat) : Int) + 5 = zI ((10 * k + 5 : Nat) : Int) := zN_add (10 * k) 5
  have e6 : zI ((10 * k : Nat) : Int) + 6 = zI ((10 * k + 6 : Nat) : Int) := zN_add (10 * k) 6
  have e7 : zI ((10 * k : Nat) : Int) + 7 = zI ((10 * k + 7 : Nat) : Int) := zN_add (10 * k) 7
  have t9 : ((if ¬ zI (lowN p4 3 : Int) = 0 then some 0 else some 1) : Option Int32) = some (zI (hf : Int)) := by rw [t_b _ (by have := l3 p4; omega), ← ehf]
  have t17 : ((if ¬ zI (lowN (p4 >>> (2 &&& 31)) 4 : Int) = 0 then some 0 else (some (zI (lowN (p4 >>> (4 &&& 31)) 6 : Int))).bind fun q19 => some q19) : Option Int32) = some (zI (st : Int)) := by
    have := l4 (p4 >>> (2 &&& 31))
    by_cases q : lowN (p4 >>> (2 &&& 31)) 4 = 0
    · rw [if_neg (fun y => y ((zN_0 (by omega)).mpr q)), bnd, est, if_pos q]
    · rw [if_pos (mt (zN_0 (by omega)).mp q), est, if_neg q]; rfl
  have t33 : ((if ¬ zI (lowN (p4 >>> (14 &&& 31)) 3 : Int) = 0 then some 0 else some 1) : Option Int32) = some (zI (la : Int)) := by rw [t_b _ (by have := l3 (p4 >>> (14 &&& 31)); omega), ← ela]
  have tcn : (1 : Int32) + zI (lowN (p4 >>> (7 &&& 31)) 3 : Int) = zI (cnt : Int) := by rw [z1a, ecn]
  have hneg : ¬ zI (n : Int) < 0 := fun y => by have := (zN_lt (a := n) (b := 0) (by omega) (by omega)).mp y; omega
  have hpre : ∀ (K : Int32 × St → Option (Int32 × St)), (∀ ρ, ρ = ((1 : Int32), τ1) → K ρ = K (1, τ1)) := fun K ρ h => by rw [h]
  rw [f_L_types, WQ_x W, bnd, c1, bnd, if_neg hneg, bnd, fl3, bnd, t9, bnd, ar_na h0, bnd, z10, e6, ar_ia h0 (by omega), bnd, stA_is τ0 (x + 42) _ _ h0.1.2.2, fl4, bnd, fl6, t17, bnd, e5, ar_ia (AR_a h0 _) (by omega), bnd, stA_wA, fl3, bnd, ar_ia (AR_a h0 _) (by omega), bnd, tcn, stA_wA, fl20, bnd, ← eb, e4, ar_ia (AR_a h0 _) (by omega), bnd, stA_wA, fl3, bnd, t33, bnd, e7, ar_ia (AR_a h0 _) (by omega), bnd, stA_wA, ← eF, if_neg (show ¬ (1 : Int32) = 0 by decide), ar_da h5, bnd, ar_ia h5 (by omega), bnd, WQ_x W5, bnd, x1, bnd, y1', bnd, w1', bnd, if_neg (show ¬ (1 : Int32) = 0 by decide), ar_da h3, bnd, ar_ia h3 (by omega), bnd, h3.1.2.2, g7]
  rcases b5 with q | q
  · rw [q] at g7 ⊢
    rw [if_pos (show zI ((0 : Nat) : Int) = 0 from rfl), sb_inr1, WQ_x w2, bnd, z_fault w2, bnd, F_c hW3 b2 (fun j _ => hE j)]
    exact ⟨τ3, T3, n3, A3, if_neg nn, w2, F_c hW3 b2 (fun j _ => hE j), hLM.1 g7, ho, hz3⟩
  · rw [q] at g7 ⊢
    have hn3 : n3 < 80 := by
      have e := hW3.1
      have := ee_st p4 p5 (cnt - 1)
      have := hE (cnt - 1)
      omega
    obtain ⟨τ4, a1, a2, a3⟩ := z_type w2 hn3 47 (by decide)
    have a1' : f_X10_type τ3 x 47 = some (zI ((n3 + 1 : Nat) : Int), τ4) := a1
    have hFd : Flt (upL T3 n3 47) (n3 + 1) = -1 := F_d hW3 b2 (fun j _ => hE j)
    have a2' : WQ x τ4 u v P (upL T3 n3 47) (n3 + 1) A3 G R := a2
    rw [if_neg (show ¬ zI ((1 : Nat) : Int) = 0 by decide), WQ_x w2, bnd, a1', bnd, if_neg (pos_0 (by omega)), sb_inr1, WQ_x a2', bnd, z_fault a2', bnd, hFd]
    exact ⟨τ4, _, _, A3, if_neg nn, a2', hFd, hLM.2 g7, ho, PZ_trans hz3 a3⟩

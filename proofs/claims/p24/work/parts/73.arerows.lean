-- the law's areRows
theorem b_ar262 {x : Nat} {σ : St} {P : PoT} {hs : Nat → PoT} {c : Nat} {T : Nat → Int32} {n : Nat} {A G R : Nat → Int32} {l4 l5 l6 l9 : Int32} (K : KQ x σ P hs c T n) (h : AR x σ A G R) (p : PA A G P) (e : ER R (layA P (P.2.2 0) P.2.1)) {i : Nat} (hi : i < rwN P (P.2.2 0)) :
    ∀ (d col f : Nat), col + d = P.2.2 0 → d < f → LL_areRows_262 f σ (some x) (some (x + 42)) (some (x + 43)) (some (x + 44)) l4 l5 l6 (zI (i : Int)) (zI (rLn (rwA P (P.2.2 0) i) : Int)) l9 (zI ((rCo (rwA P (P.2.2 0) i) + rLe (rwA P (P.2.2 0) i) : Nat) : Int)) (zI (qfF P (P.2.2 0) (P.2.2 1) i : Int)) (zI (qfL P (P.2.2 0) (P.2.2 1) i : Int)) (zI (rFr (rwA P (P.2.2 0) i) : Int)) (zI (col : Int)) = some (.inr ()) := by
  obtain ⟨p1, p2, p3, p4⟩ := id p
  have ho := K.1.2.2
  obtain ⟨s1, s2, s3, s4, s5, s6, s7⟩ := ho.2.2
  have hx : dn σ 10 (some x) = some x := dn_eq K.1.1.1.1
  have h60 := e.1
  obtain ⟨e1, e2⟩ := e.2.2 i hi
  obtain ⟨n1, n2, n3⟩ := lay_in ho s1 s2 hi
  have hwd := lay_wd ho s1 s2 P.2.1 (Nat.le_refl _) i hi
  intro d
  induction d with
  | zero =>
    intro col f hc hf
    obtain ⟨f, rfl⟩ : ∃ g, f = g + 1 := ⟨f - 1, by omega⟩
    rw [LL_areRows_262, ar_dg h, bnd, ar_g0 h, bnd, h.2.1.2.2 0, p4 0 (by decide), if_pos ((zN_le (by omega) (by omega)).mpr (by omega))]
  | succ d ih =>
    intro col f hc hf
    obtain ⟨f, rfl⟩ : ∃ g, f = g + 1 := ⟨f - 1, by omega⟩
    have hI := ih (col + 1) f (by omega) (by omega)
    have hcol : col < P.2.2 0 := by omega
    have hri : i < 64 := by unfold rwN at hi; omega
    have w1 : rCo (rwA P (P.2.2 0) i) + rLe (rwA P (P.2.2 0) i) ≤ P.2.2 0 := hwd.1
    have w2 : rFr (rwA P (P.2.2 0) i) + rLe (rwA P (P.2.2 0) i) ≤ nLen (P.1 (rLn (rwA P (P.2.2 0) i))) := n2
    have w3 : rLn (rwA P (P.2.2 0) i) < P.2.1 := n1
    have w4 := len_51 (p3 _ w3) (ho.2.1 _ w3)
    have ee : R i = zI (enc (rwA P (P.2.2 0) i) : Int) := e1
    have ok : okE (rwA P (P.2.2 0) i) := e2
    rw [LL_areRows_262, ar_dg h, bnd, ar_g0 h, bnd, h.2.1.2.2 0, p4 0 (by decide), if_neg (fun y => by have := (zN_le (by omega) (by omega)).mp y; omega), ar_dr h, bnd, ar_ir h hri, bnd, h.2.2.2.2 i, ee, f_first ok, bnd]
    by_cases q : rCo (rwA P (P.2.2 0) i) ≤ col ∧ col < rCo (rwA P (P.2.2 0) i) + rLe (rwA P (P.2.2 0) i)
    · have hb : byV P (P.2.2 0) i col = nB (P.1 (rLn (rwA P (P.2.2 0) i))) (rFr (rwA P (P.2.2 0) i) + (col - rCo (rwA P (P.2.2 0) i))) := if_pos q
      have hs : zI (rFr (rwA P (P.2.2 0) i) : Int) + zI (col : Int) - zI (rCo (rwA P (P.2.2 0) i) : Int) = zI ((rFr (rwA P (P.2.2 0) i) + (col - rCo (rwA P (P.2.2 0) i)) : Nat) : Int) := by
        rw [zN_add, zN_sub (by omega)]; congr 2; omega
      rw [if_neg (fun y => by have := (zN_lt (by omega) (by omega)).mp y; omega), if_neg (fun y => by have := (zN_le (by omega) (by omega)).mp y; omega), bnd, hx, bnd, qat K hi hcol, bnd, if_neg (show ¬ (1 : Int32) = 0 by decide), bnd, h.2.2.2.2 i, ee, f_first ok, bnd, hs, qlb K w3 (by omega), bnd, bnd, hb, if_pos rfl, zN_add1]
      exact hI
    · have hb : byV P (P.2.2 0) i col = 32 := if_neg q
      have hz : ((if zI (col : Int) < zI (rCo (rwA P (P.2.2 0) i) : Int) then some 0 else if zI ((rCo (rwA P (P.2.2 0) i) + rLe (rwA P (P.2.2 0) i) : Nat) : Int) ≤ zI (col : Int) then some 0 else some 1) : Option Int32) = some 0 := by
        by_cases z : col < rCo (rwA P (P.2.2 0) i)
        · rw [if_pos ((zN_lt (by omega) (by omega)).mpr z)]
        · rw [if_neg (fun y => z ((zN_lt (by omega) (by omega)).mp y)), if_pos ((zN_le (by omega) (by omega)).mpr (by omega))]
      rw [hz, bnd, hx, bnd, qat K hi hcol, bnd, if_pos rfl, bnd, hb, if_pos rfl, zN_add1]
      exact hI
theorem b_ar12 {x : Nat} {σ : St} {P : PoT} {hs : Nat → PoT} {c : Nat} {T : Nat → Int32} {n : Nat} {A G R : Nat → Int32} (K : KQ x σ P hs c T n) (h : AR x σ A G R) (p : PA A G P) (e : ER R (layA P (P.2.2 0) P.2.1)) :
    ∀ (d i f : Nat), i + d = rwN P (P.2.2 0) → d < f → LL_areRows_12 f σ (some x) (some (x + 42)) (some (x + 43)) (some (x + 44)) (zI (smS (ovV P (P.2.2 0)) i : Int)) (zI (smS (wiV P (P.2.2 0)) i : Int)) (zI (mxS (wdV P (P.2.2 0)) 0 i : Int)) (zI (i : Int)) = some (.inr (zI (smS (ovV P (P.2.2 0)) (rwN P (P.2.2 0)) : Int), zI (smS (wiV P (P.2.2 0)) (rwN P (P.2.2 0)) : Int), zI (mxS (wdV P (P.2.2 0)) 0 (rwN P (P.2.2 0)) : Int))) := by
  obtain ⟨p1, p2, p3, p4⟩ := id p
  have ho := K.1.2.2
  obtain ⟨s1, s2, s3, s4, s5, s6, s7⟩ := ho.2.2
  have hx : dn σ 10 (some x) = some x := dn_eq K.1.1.1.1
  have h60 := e.1
  have e63 : R 63 = zI (rwN P (P.2.2 0) : Int) := e.2.1
  have hN : rwN P (P.2.2 0) ≤ 60 := h60
  have hwd := lay_wd ho s1 s2 P.2.1 (Nat.le_refl _)
  intro d
  induction d with
  | zero =>
    intro i f hi hf
    obtain ⟨f, rfl⟩ : ∃ g, f = g + 1 := ⟨f - 1, by omega⟩
    rw [show i = rwN P (P.2.2 0) by omega, LL_areRows_12, ar_dr h, bnd, ar_r63 h, bnd, h.2.2.2.2 63, e63, if_pos ((zN_le (by omega) (by omega)).mpr (Nat.le_refl _))]
  | succ d ih =>
    intro i f hi hf
    obtain ⟨f, rfl⟩ : ∃ g, f = g + 1 := ⟨f - 1, by omega⟩
    have hin : i < rwN P (P.2.2 0) := by omega
    obtain ⟨e1, e2⟩ := e.2.2 i hin
    obtain ⟨n1, n2, n3⟩ := lay_in ho s1 s2 hin
    have ee : R i = zI (enc (rwA P (P.2.2 0) i) : Int) := e1
    have ok : okE (rwA P (P.2.2 0) i) := e2
    have w3 : rLn (rwA P (P.2.2 0) i) < P.2.1 := n1
    have hwi := hwd i hin
    have w1 : rCo (rwA P (P.2.2 0) i) + rLe (rwA P (P.2.2 0) i) ≤ P.2.2 0 := hwi.1
    have hok := id ok
    obtain ⟨k1, k2, k3, k4, k5, k6⟩ := hok
    have e6 : zI ((10 * rLn (rwA P (P.2.2 0) i) : Nat) : Int) + 6 = zI ((10 * rLn (rwA P (P.2.2 0) i) + 6 : Nat) : Int) := zN_add _ 6
    have hnu := nuP_le P (rLn (rwA P (P.2.2 0) i) + 1)
    have hmx : mxS (wdV P (P.2.2 0)) 0 i ≤ 60 := mxS_le i (fun j hj => by
      have := (hwd j (by unfold rwN at hin; omega)).1
      have e0 : wdV P (P.2.2 0) (0 + j) = rCo ((layA P (P.2.2 0) P.2.1).2 j) + rLe ((layA P (P.2.2 0) P.2.1).2 j) := by rw [Nat.zero_add]; rfl
      omega)
    have h262 := b_ar262 (l4 := zI (smS (ovV P (P.2.2 0)) i : Int)) (l5 := zI (smS (wiV P (P.2.2 0)) i : Int)) (l6 := zI (mxS (wdV P (P.2.2 0)) 0 i : Int)) (l9 := zI (rIx (rwA P (P.2.2 0) i) : Int)) K h p e hin (P.2.2 0) 0 FU (by omega) (by simp only [FU]; omega)
    have h262' : LL_areRows_262 FU σ (some x) (some (x + 42)) (some (x + 43)) (some (x + 44)) (zI (smS (ovV P (P.2.2 0)) i : Int)) (zI (smS (wiV P (P.2.2 0)) i : Int)) (zI (mxS (wdV P (P.2.2 0)) 0 i : Int)) (zI (i : Int)) (zI (rLn (rwA P (P.2.2 0) i) : Int)) (zI (rIx (rwA P (P.2.2 0) i) : Int)) (zI ((rCo (rwA P (P.2.2 0) i) + rLe (rwA P (P.2.2 0) i) : Nat) : Int)) (zI (qfF P (P.2.2 0) (P.2.2 1) i : Int)) (zI (qfL P (P.2.2 0) (P.2.2 1) i : Int)) (zI (rFr (rwA P (P.2.2 0) i) : Int)) 0 = some (.inr ()) := h262
    have o1 : zI (smS (ovV P (P.2.2 0)) i : Int) + zI ((if rIx (rwA P (P.2.2 0) i) = 0 then 0 else 1 : Nat) : Int) = zI (smS (ovV P (P.2.2 0)) (i + 1) : Int) := zN_add _ _
    have o2 : zI (smS (wiV P (P.2.2 0)) i : Int) + zI (rWi (rwA P (P.2.2 0) i) : Int) = zI (smS (wiV P (P.2.2 0)) (i + 1) : Int) := zN_add _ _
    have o3 : (max (mxS (wdV P (P.2.2 0)) 0 i) (rCo (rwA P (P.2.2 0) i) + rLe (rwA P (P.2.2 0) i))) = mxS (wdV P (P.2.2 0)) 0 (i + 1) := by
      rw [mxS, Nat.zero_add]; rfl
    rw [LL_areRows_12, ar_dr h, bnd, ar_r63 h, bnd, h.2.2.2.2 63, e63, if_neg (fun y => by have := (zN_le (by omega) (by omega)).mp y; omega), ar_ir h (by omega), bnd, bnd, bnd, h.2.2.2.2 i, ee, f_first ok, bnd, bnd, h.2.2.2.2 i, ee, f_length ok, bnd, ar_da h, bnd, dec_ln ok, z10, e6, ar_ia h (by omega), bnd, b_leans h p ho w3, bnd, hx, bnd, ql6 K w3, bnd, dec_ix ok,
      t_sh (x := x) (σ := σ) P (P.2.2 0) i (rLn (rwA P (P.2.2 0) i)) hin rfl (by omega) (by omega), bnd, qr0 K hin, bnd, if_neg nn, qr1 K hin, bnd, if_neg nn, qr4 K hin, bnd, bnd, h.2.2.2.2 i, ee, f_first ok, bnd, if_neg nn, qr5 K hin, bnd, bnd, h.2.2.2.2 i, ee, f_length ok, bnd, if_neg nn, qr6 K hin, bnd, if_neg nn, qr7 K hin, bnd, bnd, h.2.2.2.2 i, ee, dec_wi ok, if_neg nn, zN_add, qr8 K hin, bnd, if_pos rfl, qr2 K hin, bnd, qr3 K hin, bnd, bnd, h.2.2.2.2 i, ee, dec_fr ok, h262', sb_inr1, t_ov _ (by omega), bnd, bnd, t_mx _ _ (by omega) (by omega), bnd, h.2.2.2.2 i, ee, dec_wi ok, o1, o2, o3, zN_add1]
    exact ih (i + 1) f (by omega) (by omega)
theorem b_areRows {x : Nat} {σ : St} {P : PoT} {hs : Nat → PoT} {c : Nat} {T : Nat → Int32} {n : Nat} {A G R : Nat → Int32} (K : KQ x σ P hs c T n) (h : AR x σ A G R) (p : PA A G P) (e : ER R (layA P (P.2.2 0) P.2.1)) : f_L_areRows σ (some x) (some (x + 42)) (some (x + 43)) (some (x + 44)) = some 1 := by
  have hx : dn σ 10 (some x) = some x := dn_eq K.1.1.1.1
  have e63 : R 63 = zI (rwN P (P.2.2 0) : Int) := e.2.1
  have h60 := e.1
  have h60' : rwN P (P.2.2 0) ≤ 60 := h60
  have h12 : LL_areRows_12 FU σ (some x) (some (x + 42)) (some (x + 43)) (some (x + 44)) 0 0 0 0 = some (.inr (zI (smS (ovV P (P.2.2 0)) (rwN P (P.2.2 0)) : Int), zI (smS (wiV P (P.2.2 0)) (rwN P (P.2.2 0)) : Int), zI (mxS (wdV P (P.2.2 0)) 0 (rwN P (P.2.2 0)) : Int))) := b_ar12 K h p e (rwN P (P.2.2 0)) 0 FU (by omega) (by simp only [FU]; omega)
  have c2 : f_X10_count σ x 2 = some (zI (rwN P (P.2.2 0) : Int)) := qc K 2 (by decide)
  have c4 : f_X10_count σ x 4 = some (zI (smS (ovV P (P.2.2 0)) (rwN P (P.2.2 0)) : Int)) := by
    have a : f_X10_count σ x 4 = some (zI ((rwN P (P.2.2 0) - P.2.1 : Nat) : Int)) := qc K 4 (by decide)
    have := ov_all P (P.2.2 0) P.2.1 (Nat.le_refl _)
    rw [a]
    congr 3
    unfold rwN
    omega
  have c5 : f_X10_count σ x 5 = some (zI (smS (wiV P (P.2.2 0)) (rwN P (P.2.2 0)) : Int)) := qc K 5 (by decide)
  have c8 : f_X10_count σ x 8 = some (zI (mxS (wdV P (P.2.2 0)) 0 (rwN P (P.2.2 0)) : Int)) := qc K 8 (by decide)
  have m1 : f_X10_row σ x (zI (rwN P (P.2.2 0) : Int)) 0 = some (-1) := by
    have q := k_row K (rwN P (P.2.2 0)) 0 (by omega) (by omega) (by omega) (by omega)
    rw [if_pos ⟨by omega, by omega, by omega⟩, if_neg (by omega)] at q
    exact q
  have m2 : f_X10_row σ x (-1) 0 = some (-2) := by
    have q := k_row K (-1) 0 (by omega) (by omega) (by omega) (by omega)
    rw [if_neg (fun y => by omega)] at q
    exact q
  have m3 : f_X10_row σ x 0 9 = some (-2) := by
    have q := k_row K 0 9 (by omega) (by omega) (by omega) (by omega)
    rw [if_neg (fun y => by omega)] at q
    exact q
  rw [f_L_areRows, h12, sb_inr1, hx, bnd, c2, bnd, ar_dr h, bnd, ar_r63 h, bnd, h.2.2.2.2 63, e63, if_neg nn, c4, bnd, if_neg nn, c5, bnd, if_neg nn, c8, bnd, if_neg nn, bnd, h.2.2.2.2 63, e63, m1, bnd, if_neg nn, m2, bnd, if_neg nn, m3, bnd, if_neg nn]

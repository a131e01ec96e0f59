-- the law's areLines: all its questions
theorem nn {a : Int32} : ¬ ¬ a = a := fun y => y rfl
section QS
variable {x : Nat} {σ : St} {P : PoT} {hs : Nat → PoT} {c : Nat} {T : Nat → Int32} {n : Nat}
theorem ql (K : KQ x σ P hs c T n) {k : Nat} (hk : k < P.2.1) (w : Nat) (hw : w ≤ 9) : f_X10_line σ x (zI (k : Int)) (zI (w : Int)) = some (zI (linV P (P.2.2 0) k w : Int)) := by
  have h24 := K.1.2.2.1
  rw [k_line K k w (by omega) (by omega) (by omega) (by omega), if_pos ⟨⟨by omega, by omega⟩, by omega, by omega⟩]
  rfl
theorem ql0 (K : KQ x σ P hs c T n) {k : Nat} (hk : k < P.2.1) : f_X10_line σ x (zI (k : Int)) 0 = some (zI (nLt (P.1 k) : Int)) := ql K hk 0 (by decide)
theorem ql1 (K : KQ x σ P hs c T n) {k : Nat} (hk : k < P.2.1) : f_X10_line σ x (zI (k : Int)) 1 = some (zI (nCnt (P.1 k) : Int)) := ql K hk 1 (by decide)
theorem ql2 (K : KQ x σ P hs c T n) {k : Nat} (hk : k < P.2.1) : f_X10_line σ x (zI (k : Int)) 2 = some (zI (nSt (P.1 k) : Int)) := ql K hk 2 (by decide)
theorem ql3 (K : KQ x σ P hs c T n) {k : Nat} (hk : k < P.2.1) : f_X10_line σ x (zI (k : Int)) 3 = some (zI (nHf (P.1 k) : Int)) := ql K hk 3 (by decide)
theorem ql4 (K : KQ x σ P hs c T n) {k : Nat} (hk : k < P.2.1) : f_X10_line σ x (zI (k : Int)) 4 = some (if lnS P k = true then 1 else 0) := by
  have e : f_X10_line σ x (zI (k : Int)) 4 = some (zI ((if lnS P k = true then 1 else 0 : Nat) : Int)) := ql K hk 4 (by decide)
  rw [e]
  cases lnS P k <;> rfl
theorem ql5 (K : KQ x σ P hs c T n) {k : Nat} (hk : k < P.2.1) : f_X10_line σ x (zI (k : Int)) 5 = some (zI (nLa (P.1 k) : Int)) := ql K hk 5 (by decide)
theorem ql6 (K : KQ x σ P hs c T n) {k : Nat} (hk : k < P.2.1) : f_X10_line σ x (zI (k : Int)) 6 = some (zI (nuP P (k + 1) : Int)) := ql K hk 6 (by decide)
theorem ql7 (K : KQ x σ P hs c T n) {k : Nat} (hk : k < P.2.1) : f_X10_line σ x (zI (k : Int)) 7 = some (zI ((layA P (P.2.2 0) k).1 : Int)) := ql K hk 7 (by decide)
theorem ql8 (K : KQ x σ P hs c T n) {k : Nat} (hk : k < P.2.1) : f_X10_line σ x (zI (k : Int)) 8 = some (zI (((layA P (P.2.2 0) (k + 1)).1 - (layA P (P.2.2 0) k).1 : Nat) : Int)) := ql K hk 8 (by decide)
theorem ql9 (K : KQ x σ P hs c T n) {k : Nat} (hk : k < P.2.1) : f_X10_line σ x (zI (k : Int)) 9 = some (zI ((szN P (k + 1) : Int) - 1)) := by
  have e : f_X10_line σ x (zI (k : Int)) 9 = some (zI (szO P k : Int)) := ql K hk 9 (by decide)
  rw [e]
  have := (szN_le P (k + 1)).2 (by omega)
  congr 2
  show ((szN P (k + 1) - 1 : Nat) : Int) = _
  omega
theorem qle (K : KQ x σ P hs c T n) (k : Nat) (hk : k < P.2.1) : f_X10_letter σ x (zI (k : Int)) (zI (nLen (P.1 k) : Int)) = some (-1) ∧ f_X10_letter σ x (zI (k : Int)) (-1) = some (-2) := by
  have h24 := K.1.2.2.1
  have hl := (K.1.2.2.2.1 k hk).1
  constructor
  · rw [k_letter K k (nLen (P.1 k)) (by omega) (by omega) (by omega) (by omega), if_pos ⟨⟨by omega, by omega⟩, by omega⟩]
    show some (if (nLen (P.1 k) : Int) < nLen (P.1 k) then _ else -1) = _
    rw [if_neg (by omega)]
  · have e := k_letter K k (-1) (by omega) (by omega) (by omega) (by omega)
    rw [if_neg (fun y => by omega)] at e
    exact e
theorem qc (K : KQ x σ P hs c T n) (w : Nat) (hw : w ≤ 15) : f_X10_count σ x (zI (w : Int)) = some (zI (cntV P (P.2.2 0) (P.2.2 1) c n w : Int)) := by
  rw [k_count K w (by omega) (by omega), if_pos ⟨by omega, by omega⟩]
  rfl
end QS
theorem t15 (b : Bool) : ((if (if b = true then (1 : Int32) else 0) = 0 then some 1 else some 0) : Option Int32) = some (if b = true then 0 else 1) := by cases b <;> decide
theorem t19 (b : Bool) : ((if (if b = true then (1 : Int32) else 0) = 0 then some 0 else some 1) : Option Int32) = some (if b = true then 1 else 0) := by cases b <;> decide
theorem nu_s (P : PoT) (k : Nat) : zI (nuP P k : Int) + (if lnS P k = true then 0 else 1) = zI (nuP P (k + 1) : Int) := by
  rw [nuP]
  cases lnS P k with
  | true => rw [if_pos rfl, if_pos rfl]; exact zN_add (nuP P k) 0
  | false => rw [if_neg (by decide), if_neg (by decide)]; exact zN_add1 _
theorem sz_s (P : PoT) (k : Nat) : zI ((szN P k : Int) - 1) + (if bgS P k = true then 1 else 0) = zI ((szN P (k + 1) : Int) - 1) := by
  rw [szN]
  cases bgS P k with
  | true =>
    rw [if_pos rfl, if_pos rfl]
    show _ + zI 1 = _
    rw [zI_add]; congr 1; omega
  | false =>
    rw [if_neg (by decide), if_neg (by decide)]
    show _ + zI 0 = _
    rw [zI_add]; congr 1; omega
theorem b_al8 {x : Nat} {σ : St} {P : PoT} {hs : Nat → PoT} {c : Nat} {T : Nat → Int32} {n : Nat} {A G R : Nat → Int32} (K : KQ x σ P hs c T n) (h : AR x σ A G R) (p : PA A G P) (e : ER R (layA P (P.2.2 0) P.2.1)) :
    ∀ (d k f : Nat), k + d = P.2.1 → d < f → LL_areLines_8 f σ (some x) (some (x + 42)) (some (x + 44)) (zI (nuP P k : Int)) (zI ((szN P k : Int) - 1)) (zI (k : Int)) = some (.inr (zI (nuP P P.2.1 : Int), zI ((szN P P.2.1 : Int) - 1))) := by
  obtain ⟨p1, p2, p3, p4⟩ := id p
  have ho := K.1.2.2
  obtain ⟨s1, s2, s3, s4, s5, s6, s7⟩ := ho.2.2
  have hx : dn σ 10 (some x) = some x := dn_eq K.1.1.1.1
  intro d
  induction d with
  | zero =>
    intro k f hk hf
    obtain ⟨f, rfl⟩ : ∃ g, f = g + 1 := ⟨f - 1, by omega⟩
    rw [show k = P.2.1 by omega, LL_areLines_8, ar_da h, bnd, ar_a60 h, bnd, h.1.2.2 60, p2, if_pos ((zN_le (by omega) (by omega)).mpr (Nat.le_refl _))]
  | succ d ih =>
    intro k f hk hf
    obtain ⟨f, rfl⟩ : ∃ g, f = g + 1 := ⟨f - 1, by omega⟩
    have hkn : k < P.2.1 := by omega
    obtain ⟨l1, l2, l3, l4, l5, l6, l7⟩ := p3 k hkn
    have hl := len_51 (p3 k hkn) (ho.2.1 k hkn)
    have hlt := ((ho.2.1 k hkn).2.2.2.1.2.1 (ho.2.1 k hkn).2.1).2
    have e5 : zI ((10 * k : Nat) : Int) + 5 = zI ((10 * k + 5 : Nat) : Int) := zN_add (10 * k) 5
    have e6 : zI ((10 * k : Nat) : Int) + 6 = zI ((10 * k + 6 : Nat) : Int) := zN_add (10 * k) 6
    have e7 : zI ((10 * k : Nat) : Int) + 7 = zI ((10 * k + 7 : Nat) : Int) := zN_add (10 * k) 7
    have hL : LL_areLines_91 FU σ (some x) (some (x + 42)) (some (x + 44)) (zI (nuP P (k + 1) : Int)) (zI ((szN P (k + 1) : Int) - 1)) (zI (k : Int)) (if lnS P k = true then 1 else 0) 0 (-1) 0 0 = some (zI (nLt (P.1 k) : Int)) := by
      have := b_letters (o0 := some x) (o2 := some (x + 44)) (o3 := zI (nuP P (k + 1) : Int)) (o4 := zI ((szN P (k + 1) : Int) - 1)) (o6 := if lnS P k = true then 1 else 0) (o8 := 0) (o9 := -1) h (by omega : k < 6) l1 l3 l4 (nCnt (P.1 k)) 0 FU (by omega) (by simp only [FU]; omega)
      rw [show stW (nE (P.1 k)) (nCnt (P.1 k)) - nCnt (P.1 k) = nLt (P.1 k) by omega] at this
      exact this
    have hlay := layA_ok ho s1 s2 k (by omega)
    have hB := b_rowsOf (o0 := some x) (o1 := some (x + 42)) (o3 := zI (nuP P (k + 1) : Int)) (o4 := zI ((szN P (k + 1) : Int) - 1)) (o6 := if lnS P k = true then 1 else 0) (o7 := zI (nLt (P.1 k) : Int)) h e hkn p1 (hlay.2.2 hkn).1 (layA P (P.2.2 0) P.2.1).1 0 FU (by omega) (by have := e.1; simp only [FU]; omega)
    rw [Nat.zero_min, Nat.zero_sub, if_pos (Nat.zero_le _)] at hB
    have hB2 : LL_areLines_129 FU σ (some x) (some (x + 42)) (some (x + 44)) (zI (nuP P (k + 1) : Int)) (zI ((szN P (k + 1) : Int) - 1)) (zI (k : Int)) (if lnS P k = true then 1 else 0) (zI (nLt (P.1 k) : Int)) 0 (-1) 0 = some (zI (((layA P (P.2.2 0) (k + 1)).1 - (layA P (P.2.2 0) k).1 : Nat) : Int), zI ((layA P (P.2.2 0) k).1 : Int)) := hB
    have hw : zI (nLt (P.1 k) : Int) + zI (nCnt (P.1 k) : Int) - 1 = zI (nLen (P.1 k) : Int) := by
      rw [zN_add, zN_sub1 (by omega)]; congr 2; omega
    obtain ⟨q1, q2⟩ := qle K k hkn
    rw [LL_areLines_8, ar_da h, bnd, ar_a60 h, bnd, h.1.2.2 60, p2, if_neg (fun y => by have := (zN_le (by omega) (by omega)).mp y; omega), z10, e6, ar_ia h (by omega), bnd, b_leans h p ho hkn, bnd, t15, bnd, b_isFirst h p ho hkn, bnd, t19, bnd, nu_s, sz_s, hL, bnd, hB2, bnd, hx, bnd,
      ql0 K hkn, bnd, if_neg nn, ql1 K hkn, bnd, ar_ia h (by omega), bnd, h.1.2.2 (10 * k), l1, if_neg nn, ql2 K hkn, bnd, e5, ar_ia h (by omega), bnd, h.1.2.2 (10 * k + 5), l5, if_neg nn, ql3 K hkn, bnd, bnd, h.1.2.2 (10 * k + 6), l6, if_neg nn, ql4 K hkn, bnd, t19, bnd, if_neg nn,
      ql5 K hkn, bnd, e7, ar_ia h (by omega), bnd, h.1.2.2 (10 * k + 7), l7, if_pos rfl, ql6 K hkn, bnd, if_neg nn, ql7 K hkn, bnd, if_neg nn, ql8 K hkn, bnd, if_neg nn, ql9 K hkn, bnd, if_neg nn, bnd, h.1.2.2 (10 * k), l1, hw, q1, bnd, if_neg nn, q2, bnd, if_pos rfl, zN_add1]
    exact ih (k + 1) f (by omega) (by omega)
theorem b_areLines {x : Nat} {σ : St} {P : PoT} {hs : Nat → PoT} {c : Nat} {T : Nat → Int32} {n : Nat} {A G R : Nat → Int32} (K : KQ x σ P hs c T n) (h : AR x σ A G R) (p : PA A G P) (e : ER R (layA P (P.2.2 0) P.2.1)) : f_L_areLines σ (some x) (some (x + 42)) (some (x + 44)) = some 1 := by
  have hx : dn σ 10 (some x) = some x := dn_eq K.1.1.1.1
  have h8 : LL_areLines_8 FU σ (some x) (some (x + 42)) (some (x + 44)) 0 (-1) 0 = some (.inr (zI (nuP P P.2.1 : Int), zI ((szN P P.2.1 : Int) - 1))) := b_al8 K h p e P.2.1 0 FU (by omega) (by have := p.1; simp only [FU]; omega)
  have c0 : f_X10_count σ x 0 = some (zI (P.2.1 : Int)) := qc K 0 (by decide)
  have c1 : f_X10_count σ x 1 = some (zI (szN P P.2.1 : Int)) := qc K 1 (by decide)
  have c7 : f_X10_count σ x 7 = some (zI (nuP P P.2.1 : Int)) := qc K 7 (by decide)
  have z1 : zI ((szN P P.2.1 : Int) - 1) + 1 = zI (szN P P.2.1 : Int) := by
    show _ + zI 1 = _
    rw [zI_add]; congr 1; omega
  have p6 := p.1
  have m1 : f_X10_line σ x (zI (P.2.1 : Int)) 0 = some (-2) := by
    have q := k_line K P.2.1 0 (by omega) (by omega) (by omega) (by omega)
    rw [if_neg (fun y => by omega)] at q
    exact q
  have m2 : f_X10_line σ x 0 10 = some (-2) := by
    have q := k_line K 0 10 (by omega) (by omega) (by omega) (by omega)
    rw [if_neg (fun y => by omega)] at q
    exact q
  rw [f_L_areLines, h8, sb_inr1, hx, bnd, c0, bnd, ar_da h, bnd, ar_a60 h, bnd, h.1.2.2 60, p.2.1, if_neg nn, c1, bnd, z1, if_neg nn, c7, bnd, if_neg nn, bnd, h.1.2.2 60, p.2.1, m1, bnd, if_neg nn, m2, bnd, if_neg nn]

-- no two rows stand at one place; the rows' questions
def PJ (s : QS) (r : Nat) : Prop := (∀ i j, i < j → j < r → qF s i < qF s j ∨ (qF s i = qF s j ∧ qL s i < qL s j)) ∧ ∀ i, i < r → qF s i < qPg s ∨ (qF s i = qPg s ∧ qL s i < qPl s)
theorem PJ_tn {s : QS} {r : Nat} (h : PJ s r) : PJ (tnQ s) r :=
  ⟨h.1, fun i hi => Or.inl (by have := h.2 i hi; show qF s i < qPg s + 1; omega)⟩
theorem PJ_row {H : Nat} {s : QS} {r : Nat} (h : PJ s r) : PJ (rowQ H r s) (r + 1) := by
  have h0 : PJ (rowQ0 H s) r ∧ (∀ i, qF (rowQ0 H s) i = qF s i) ∧ ∀ i, qL (rowQ0 H s) i = qL s i := by
    rw [rowQ0]
    split
    · exact ⟨PJ_tn h, fun _ => rfl, fun _ => rfl⟩
    · exact ⟨h, fun _ => rfl, fun _ => rfl⟩
  obtain ⟨⟨a1, a2⟩, a3, a4⟩ := h0
  refine ⟨fun i j hij hj => ?_, fun i hi => ?_⟩
  · show (if i = r then qPg (rowQ0 H s) else qF s i) < (if j = r then qPg (rowQ0 H s) else qF s j) ∨ ((if i = r then qPg (rowQ0 H s) else qF s i) = (if j = r then qPg (rowQ0 H s) else qF s j) ∧ (if i = r then qPl (rowQ0 H s) else qL s i) < (if j = r then qPl (rowQ0 H s) else qL s j))
    by_cases q : j = r
    · have := a2 i (by omega)
      rw [a3, a4] at this
      rw [if_neg (show ¬ i = r by omega), if_neg (show ¬ i = r by omega), if_pos q, if_pos q]
      exact this
    · have := a1 i j hij (by omega)
      rw [a3, a4, a3, a4] at this
      rw [if_neg (show ¬ i = r by omega), if_neg (show ¬ i = r by omega), if_neg q, if_neg q]
      exact this
  · show (if i = r then qPg (rowQ0 H s) else qF s i) < qPg (rowQ0 H s) ∨ ((if i = r then qPg (rowQ0 H s) else qF s i) = qPg (rowQ0 H s) ∧ (if i = r then qPl (rowQ0 H s) else qL s i) < qPl (rowQ0 H s) + 1)
    by_cases q : i = r
    · rw [if_pos q, if_pos q]; right; exact ⟨rfl, Nat.lt_succ_self _⟩
    · have := a2 i (by omega)
      rw [a3, a4] at this
      rw [if_neg q, if_neg q]
      omega
theorem PJ_rows {H : Nat} : ∀ d r s, PJ s r → PJ (rowsQ H d r s) (r + d) := by
  intro d
  induction d with
  | zero => intro r s h; exact h
  | succ d ih =>
    intro r s h
    rw [rowsQ, show r + (d + 1) = r + 1 + d by omega]
    exact ih _ _ (PJ_row h)
theorem PJ_head {H K n all : Nat} {bg : Bool} {s : QS} {r : Nat} (h : PJ s r) : PJ (headQ H K n all bg s) r := by
  rw [headQ]
  split
  · split
    · exact h
    · split
      · exact PJ_tn h
      · exact ⟨h.1, fun i hi => by have := h.2 i hi; show qF s i < qPg s ∨ (qF s i = qPg s ∧ qL s i < qPl s + 1); omega⟩
  · split
    · exact PJ_tn h
    · exact h
theorem PJ_pag (P : PoT) (W H : Nat) : ∀ k, PJ (pagQ P W H k) (layA P W k).1
  | 0 => ⟨fun i j _ h => absurd h (Nat.not_lt_zero j), fun i h => absurd h (Nat.not_lt_zero i)⟩
  | k + 1 => by
    have hl := layA_lt P W k
    have h := PJ_rows (H := H) (lrS P W k) (layA P W k).1 _ (PJ_head (H := H) (K := P.2.2 4) (n := lrS P W k) (all := srS P W P.2.1 (szO P k)) (bg := bgS P k) (PJ_pag P W H k))
    rw [show (layA P W k).1 + lrS P W k = (layA P W (k + 1)).1 by unfold lrS; omega] at h
    exact h
theorem atF_first {F L : Nat → Nat} {i : Nat} : ∀ d j, j ≤ i → i < j + d → (∀ m, j ≤ m → m < i → ¬ (F m = F i ∧ L m = L i)) → atF F L (F i) (L i) d j = some i := by
  intro d
  induction d with
  | zero => intro j h1 h2; omega
  | succ d ih =>
    intro j h1 h2 h3
    rw [atF]
    by_cases q : j = i
    · subst q; rw [if_pos ⟨rfl, rfl⟩]
    · rw [if_neg (h3 j (Nat.le_refl _) (by omega))]
      exact ih (j + 1) (by omega) (by omega) (fun m a b => h3 m (by omega) b)
theorem atV_row (P : PoT) (W H : Nat) {i : Nat} (hi : i < rwN P W) (col : Nat) : atV P W H (qfF P W H i) (qfL P W H i) col = byV P W i col := by
  have hp := (PJ_pag P W H P.2.1).1
  have e := atF_first (F := qfF P W H) (L := qfL P W H) (i := i) (rwN P W) 0 (Nat.zero_le _) (by omega) (fun m _ hm y => by
    have := hp m i hm hi
    have y1 : qF (pagQ P W H P.2.1) m = qF (pagQ P W H P.2.1) i := y.1
    have y2 : qL (pagQ P W H P.2.1) m = qL (pagQ P W H P.2.1) i := y.2
    omega)
  rw [atV, e]
section QR
variable {x : Nat} {σ : St} {P : PoT} {hs : Nat → PoT} {c : Nat} {T : Nat → Int32} {n : Nat}
theorem qr (K : KQ x σ P hs c T n) {i : Nat} (hi : i < rwN P (P.2.2 0)) (w : Nat) (hw : w ≤ 8) : f_X10_row σ x (zI (i : Int)) (zI (w : Int)) = some (zI (rowV P (P.2.2 0) (P.2.2 1) i w : Int)) := by
  obtain ⟨s1, s2, s3, s4, s5, s6, s7⟩ := K.1.2.2.2.2
  have h480 := rwN_le K.1.2.2 s1 s2
  rw [k_row K i w (by omega) (by omega) (by omega) (by omega), if_pos ⟨by omega, by omega, by omega⟩, if_pos (by omega)]
  rfl
theorem qr0 (K : KQ x σ P hs c T n) {i : Nat} (hi : i < rwN P (P.2.2 0)) : f_X10_row σ x (zI (i : Int)) 0 = some (zI (rLn (rwA P (P.2.2 0) i) : Int)) := qr K hi 0 (by decide)
theorem qr1 (K : KQ x σ P hs c T n) {i : Nat} (hi : i < rwN P (P.2.2 0)) : f_X10_row σ x (zI (i : Int)) 1 = some (zI (rIx (rwA P (P.2.2 0) i) : Int)) := qr K hi 1 (by decide)
theorem qr2 (K : KQ x σ P hs c T n) {i : Nat} (hi : i < rwN P (P.2.2 0)) : f_X10_row σ x (zI (i : Int)) 2 = some (zI (qfF P (P.2.2 0) (P.2.2 1) i : Int)) := qr K hi 2 (by decide)
theorem qr3 (K : KQ x σ P hs c T n) {i : Nat} (hi : i < rwN P (P.2.2 0)) : f_X10_row σ x (zI (i : Int)) 3 = some (zI (qfL P (P.2.2 0) (P.2.2 1) i : Int)) := qr K hi 3 (by decide)
theorem qr4 (K : KQ x σ P hs c T n) {i : Nat} (hi : i < rwN P (P.2.2 0)) : f_X10_row σ x (zI (i : Int)) 4 = some (zI (rCo (rwA P (P.2.2 0) i) : Int)) := qr K hi 4 (by decide)
theorem qr5 (K : KQ x σ P hs c T n) {i : Nat} (hi : i < rwN P (P.2.2 0)) : f_X10_row σ x (zI (i : Int)) 5 = some (zI (rLe (rwA P (P.2.2 0) i) : Int)) := qr K hi 5 (by decide)
theorem qr6 (K : KQ x σ P hs c T n) {i : Nat} (hi : i < rwN P (P.2.2 0)) : f_X10_row σ x (zI (i : Int)) 6 = some (zI (shA P (P.2.2 0) P.2.1 i : Int)) := qr K hi 6 (by decide)
theorem qr7 (K : KQ x σ P hs c T n) {i : Nat} (hi : i < rwN P (P.2.2 0)) : f_X10_row σ x (zI (i : Int)) 7 = some (zI (rWi (rwA P (P.2.2 0) i) : Int)) := qr K hi 7 (by decide)
theorem qr8 (K : KQ x σ P hs c T n) {i : Nat} (hi : i < rwN P (P.2.2 0)) : f_X10_row σ x (zI (i : Int)) 8 = some (zI ((rCo (rwA P (P.2.2 0) i) + rLe (rwA P (P.2.2 0) i) : Nat) : Int)) := qr K hi 8 (by decide)
theorem qat (K : KQ x σ P hs c T n) {i col : Nat} (hi : i < rwN P (P.2.2 0)) (hc : col < P.2.2 0) : f_X10_at σ x (zI (qfF P (P.2.2 0) (P.2.2 1) i : Int)) (zI (qfL P (P.2.2 0) (P.2.2 1) i : Int)) (zI (col : Int)) = some (byV P (P.2.2 0) i col) := by
  obtain ⟨s1, s2, s3, s4, s5, s6, s7⟩ := K.1.2.2.2.2
  have h480 := rwN_le K.1.2.2 s1 s2
  obtain ⟨i1, i2, i3, i4, i5⟩ := PI_pag P (W := P.2.2 0) s3 P.2.1
  obtain ⟨j1, j2⟩ := i2 i hi
  have hN : P.2.1 ≠ 0 := by
    intro y
    have : rwN P (P.2.2 0) = 0 := by unfold rwN; rw [y]; rfl
    omega
  have hpg : pgN P (P.2.2 0) (P.2.2 1) = qPg (pagQ P (P.2.2 0) (P.2.2 1) P.2.1) + 1 := if_neg hN
  have h1 : qfF P (P.2.2 0) (P.2.2 1) i ≤ qPg (pagQ P (P.2.2 0) (P.2.2 1) P.2.1) := j1
  have h2 : qfL P (P.2.2 0) (P.2.2 1) i < P.2.2 1 := j2
  have hle : qPg (pagQ P (P.2.2 0) (P.2.2 1) P.2.1) ≤ rwN P (P.2.2 0) := by
    cases q : qE (pagQ P (P.2.2 0) (P.2.2 1) P.2.1) with
    | true => exact (i4 q).2
    | false => have := (i3 q).2.2; unfold rwN; omega
  rw [k_at K _ _ _ (by omega) (by omega) (by omega) (by omega) (by omega) (by omega), if_pos ⟨⟨by omega, by rw [hpg]; omega⟩, ⟨by omega, by omega⟩, by omega, by omega⟩]
  show some (atV P (P.2.2 0) (P.2.2 1) (qfF P (P.2.2 0) (P.2.2 1) i) (qfL P (P.2.2 0) (P.2.2 1) i) col) = _
  rw [atV_row P _ _ hi]
theorem qlb (K : KQ x σ P hs c T n) {k w : Nat} (hk : k < P.2.1) (hw : w < nLen (P.1 k)) : f_X10_letter σ x (zI (k : Int)) (zI (w : Int)) = some (nB (P.1 k) w) := by
  have h24 := K.1.2.2.1
  have hl := (K.1.2.2.2.1 k hk).1
  rw [k_letter K k w (by omega) (by omega) (by omega) (by omega), if_pos ⟨⟨by omega, by omega⟩, by omega⟩]
  show some (if (w : Int) < nLen (P.1 k) then nB (P.1 k) w else -1) = _
  rw [if_pos (by omega)]
end QR
/-- rows that begin no line -/
def ovV (P : PoT) (W i : Nat) : Nat := if rIx (rwA P W i) = 0 then 0 else 1
theorem ov_all (P : PoT) (W : Nat) : ∀ k, k ≤ P.2.1 → smS (ovV P W) (layA P W k).1 + k = (layA P W k).1 := by
  intro k
  induction k with
  | zero => intro _; rfl
  | succ k ih =>
    intro hk
    have h0 := ih (by omega)
    have hl := layA_lt P W k
    have g : ∀ m, (layA P W k).1 + m ≤ (layA P W (k + 1)).1 → smS (ovV P W) ((layA P W k).1 + m) = smS (ovV P W) (layA P W k).1 + (m - 1) := by
      intro m
      induction m with
      | zero => intro _; rfl
      | succ m ihm =>
        intro hm
        have e := ihm (by omega)
        have r := (layA_row P W (n := P.2.1) (k := k) (i := (layA P W k).1 + m) (by omega) (by omega) (by omega)).2
        have eo : ovV P W ((layA P W k).1 + m) = if m = 0 then 0 else 1 := by
          unfold ovV rwA
          rw [r]
          by_cases q : m = 0
          · subst q; rw [if_pos (by omega), if_pos rfl]
          · rw [if_neg (by omega), if_neg q]
        rw [show (layA P W k).1 + (m + 1) = (layA P W k).1 + m + 1 by omega, smS, e, eo]
        by_cases q : m = 0
        · subst q; rw [if_pos rfl]
        · rw [if_neg q]; omega
    have := g ((layA P W (k + 1)).1 - (layA P W k).1) (by omega)
    rw [show (layA P W k).1 + ((layA P W (k + 1)).1 - (layA P W k).1) = (layA P W (k + 1)).1 by omega] at this
    omega
theorem z_rem (n : Nat) (h : n < 2147483648) : zI (n : Int) - zI (n : Int) / 5 * 5 = zI ((n % 5 : Nat) : Int) := by
  have e : zI (n : Int) / 5 = zI ((n / 5 : Nat) : Int) := zdiv (b := 5) h (by decide) (by decide)
  rw [e]
  show zI (n : Int) - zI ((n / 5 : Nat) : Int) * zI 5 = _
  rw [zI_mul, zI_sub]
  congr 1
  have := Nat.div_add_mod n 5
  omega
theorem t_ov (i : Nat) (h : i ≤ 2147483647) : ((if zI (i : Int) ≤ 0 then some 0 else some 1) : Option Int32) = some (zI ((if i = 0 then 0 else 1 : Nat) : Int)) := by
  by_cases q : i = 0
  · subst q; rfl
  · rw [if_neg (fun y => by have := (zN_le (a := i) (b := 0) h (by omega)).mp y; omega), if_neg q]; rfl
theorem t_mx (a b : Nat) (ha : a ≤ 1000) (hb : b ≤ 1000) : ((if zI (a : Int) ≤ zI (b : Int) then some (zI (b : Int)) else some (zI (a : Int))) : Option Int32) = some (zI ((max b a : Nat) : Int)) := by
  by_cases q : a ≤ b
  · rw [if_pos ((zN_le (by omega) (by omega)).mpr q), Nat.max_eq_left q]
  · rw [if_neg (fun y => q ((zN_le (by omega) (by omega)).mp y)), Nat.max_eq_right (by omega)]
theorem t_sh {x : Nat} {σ : St} (P : PoT) (W i k : Nat) (hi : i < (layA P W P.2.1).1) (hk : rLn ((layA P W P.2.1).2 i) = k) (hn : nuP P (k + 1) ≤ 1000) (hx : rIx (rwA P W i) ≤ 1000) : ((if ¬ zI (rIx (rwA P W i) : Int) = 0 then some 0 else if ¬ (if lnS P k = true then (1 : Int32) else 0) = 0 then some 0 else (nz 5).bind fun w36 => if ¬ (zI (nuP P (k + 1) : Int) - zI (nuP P (k + 1) : Int) / 5 * 5) = 0 then some 0 else some (zI (nuP P (k + 1) : Int))) : Option Int32) = some (zI (shA P W P.2.1 i : Int)) := by
  rw [shA_ok P W P.2.1 i hi, hk, show nz 5 = some 5 from rfl, bnd, z_rem _ (by omega)]
  show _ = some (zI ((if rIx (rwA P W i) = 0 then shK P k else 0 : Nat) : Int))
  by_cases q : rIx (rwA P W i) = 0
  · rw [if_neg (fun y => y ((zN_0 (by omega)).mpr q)), if_pos q, shK]
    cases hl : lnS P k with
    | true => rfl
    | false =>
      rw [if_neg (show ¬ ¬ (if false = true then (1 : Int32) else 0) = 0 by decide)]
      by_cases z : nuP P (k + 1) % 5 = 0
      · rw [if_neg (fun y => y ((zN_0 (by omega)).mpr z)), if_pos ⟨rfl, z⟩]
      · rw [if_pos (mt (zN_0 (by omega)).mp z), if_neg (fun y => z y.2)]; rfl
  · rw [if_pos (mt (zN_0 (by omega)).mp q), if_neg q]; rfl

def qfF (P : PoT) (W H : Nat) : Nat → Nat := qF (pagQ P W H P.2.1)
def qfL (P : PoT) (W H : Nat) : Nat → Nat := qL (pagQ P W H P.2.1)
def rwN (P : PoT) (W : Nat) : Nat := (layA P W P.2.1).1
def rwA (P : PoT) (W i : Nat) : RT := (layA P W P.2.1).2 i
/-- a row's properties -/
def rowV (P : PoT) (W H i w : Nat) : Nat := if w = 0 then rLn (rwA P W i) else if w = 1 then rIx (rwA P W i) else if w = 2 then qfF P W H i else if w = 3 then qfL P W H i else if w = 4 then rCo (rwA P W i) else if w = 5 then rLe (rwA P W i) else if w = 6 then shA P W P.2.1 i else if w = 7 then rWi (rwA P W i) else rCo (rwA P W i) + rLe (rwA P W i)
theorem rwN_le {P : PoT} (ho : okP P) {W : Nat} (hW : 12 ≤ W) (hW2 : W ≤ 60) : rwN P W ≤ 480 := by
  have h24 := ho.1
  have := (layA_ok ho hW hW2 P.2.1 (Nat.le_refl _)).1
  unfold rwN; omega
theorem g_shownR {N : MS} {P : PoT} {W : Nat} (hp : PM N P) (ho : okP P) (hW : 12 ≤ W) (hW2 : W ≤ 60) (hr : RM N (layA P W P.2.1)) {i : Nat} (hi : i < rwN P W) : g_X11_shown N (zI i) = some (zI (shA P W P.2.1 i)) := by
  have h480 := rwN_le ho hW hW2
  have h24 := ho.1
  obtain ⟨a1, a2, a3, a4, a5, a6⟩ := hr.2 i hi
  obtain ⟨l1, l2, l3⟩ := lay_in ho hW hW2 hi
  have ii : ix (zI (i : Int)) 960 = some i := ix_l _ _ (by omega) (by omega)
  rw [g_X11_shown, ii, bnd, a1, g_numOf1 hp ho l1, bnd, bnd, a2, shA_ok P W P.2.1 i hi]
  have hx := XR_le ho hW hW2 hi
  have hx' : rIx ((layA P W P.2.1).2 i) ≤ 1000 := hx
  generalize (layA P W P.2.1).2 i = r at *
  have ez : (zI ((rIx r : Nat) : Int) = 0) ↔ rIx r = 0 := zN_eq (b := 0) (by omega) (by omega)
  by_cases q : rIx r = 0
  · have nu := nuP_le P (rLn r + 1)
    have e5 : zI ((nuP P (rLn r + 1) : Nat) : Int) / 5 = zI ((nuP P (rLn r + 1) / 5 : Nat) : Int) := zN_div (b := 5) (by omega) (by omega)
    have e6 : zI ((nuP P (rLn r + 1) / 5 : Nat) : Int) * 5 = zI ((nuP P (rLn r + 1) / 5 * 5 : Nat) : Int) := zN_mul _ 5
    have e7 : (zI ((nuP P (rLn r + 1) : Nat) : Int) - zI ((nuP P (rLn r + 1) : Nat) : Int) / 5 * 5 = 0) ↔ nuP P (rLn r + 1) % 5 = 0 := by
      rw [e5, e6, zN_sub (by omega), show (0 : Int32) = zI ((0 : Nat) : Int) from rfl, zN_eq (by omega) (by omega)]; omega
    rw [if_neg (fun x => x (ez.mpr q)), if_pos q, bnd, a1, g_leans hp ho l1, bnd]
    unfold shK
    cases hl : lnS P (rLn r) with
    | true => rw [if_pos (show ¬ (if true = true then (1 : Int32) else 0) = 0 by decide), if_neg (fun x => by cases x.1)]; rfl
    | false =>
      rw [if_neg (show ¬ ¬ (if false = true then (1 : Int32) else 0) = 0 by decide), show nz 5 = some 5 from rfl, bnd]
      by_cases z : nuP P (rLn r + 1) % 5 = 0
      · rw [if_neg (fun x => x (e7.mpr z)), if_pos ⟨rfl, z⟩]
      · rw [if_pos (fun x => z (e7.mp x)), if_neg (fun x => z x.2)]; rfl
  · rw [if_pos (fun x => q (ez.mp x)), if_neg q]; rfl
theorem g_rowPart {N : MS} {P : PoT} {W H : Nat} (hp : PM N P) (ho : okP P) (hW : 12 ≤ W) (hW2 : W ≤ 60) (hr : RM N (layA P W P.2.1)) (hq : QM N (pagQ P W H P.2.1) (layA P W P.2.1).1) {i w : Nat} (hi : i < rwN P W) (hw : w < 9) : g_X11_rowPart N (zI i) (zI w) = some (zI (rowV P W H i w)) := by
  have h480 := rwN_le ho hW hW2
  obtain ⟨a1, a2, a3, a4, a5, a6⟩ := hr.2 i hi
  obtain ⟨b1, b2⟩ := hq.2.2.2 i hi
  have ii : ix (zI (i : Int)) 960 = some i := ix_l _ _ (by omega) (by omega)
  rw [g_X11_rowPart]
  rcases (show w = 0 ∨ w = 1 ∨ w = 2 ∨ w = 3 ∨ w = 4 ∨ w = 5 ∨ w = 6 ∨ w = 7 ∨ w = 8 by omega) with rfl | rfl | rfl | rfl | rfl | rfl | rfl | rfl | rfl
  · rw [if_pos (by decide), ii, bnd, a1]; rfl
  · rw [if_neg (by decide), if_pos (by decide), ii, bnd, a2]; rfl
  · rw [if_neg (by decide), if_neg (by decide), if_pos (by decide), ii, bnd, b1]; rfl
  · rw [if_neg (by decide), if_neg (by decide), if_neg (by decide), if_pos (by decide), ii, bnd, b2]; rfl
  · rw [if_neg (by decide), if_neg (by decide), if_neg (by decide), if_neg (by decide), if_pos (by decide), ii, bnd, a3]; rfl
  · rw [if_neg (by decide), if_neg (by decide), if_neg (by decide), if_neg (by decide), if_neg (by decide), if_pos (by decide), ii, bnd, a4]; rfl
  · rw [if_neg (by decide), if_neg (by decide), if_neg (by decide), if_neg (by decide), if_neg (by decide), if_neg (by decide), if_pos (by decide), g_shownR hp ho hW hW2 hr hi, bnd]; rfl
  · rw [if_neg (by decide), if_neg (by decide), if_neg (by decide), if_neg (by decide), if_neg (by decide), if_neg (by decide), if_neg (by decide), if_pos (by decide), ii, bnd, a5]; rfl
  · rw [if_neg (by decide), if_neg (by decide), if_neg (by decide), if_neg (by decide), if_neg (by decide), if_neg (by decide), if_neg (by decide), if_neg (by decide), ii, bnd, bnd, a3, a4, zN_add]; rfl
/-- the byte of a row at a column -/
def byV (P : PoT) (W i col : Nat) : Int32 := if rCo (rwA P W i) ≤ col ∧ col < rCo (rwA P W i) + rLe (rwA P W i) then nB (P.1 (rLn (rwA P W i))) (rFr (rwA P W i) + (col - rCo (rwA P W i))) else 32
theorem g_byteAt {N : MS} {P : PoT} {W : Nat} (hp : PM N P) (ho : okP P) (hW : 12 ≤ W) (hW2 : W ≤ 60) (hr : RM N (layA P W P.2.1)) {i col : Nat} (hi : i < rwN P W) (hc : col ≤ 1000) : g_X11_byteAt N (zI i) (zI col) = some (byV P W i col) := by
  have h480 := rwN_le ho hW hW2
  have h24 := ho.1
  obtain ⟨a1, a2, a3, a4, a5, a6⟩ := hr.2 i hi
  obtain ⟨l1, l2, l3⟩ := lay_in ho hW hW2 hi
  obtain ⟨w1, w2⟩ := lay_wd ho hW hW2 P.2.1 (Nat.le_refl _) i hi
  have hl := (ho.2.1 _ l1).1
  have p5 := (PM_l hp l1).2.2.2.2.2
  have ii : ix (zI (i : Int)) 960 = some i := ix_l _ _ (by omega) (by omega)
  unfold byV
  have er : rwA P W i = (layA P W P.2.1).2 i := rfl
  rw [er]
  clear er
  generalize (layA P W P.2.1).2 i = r at *
  rw [g_X11_byteAt, ii, bnd, bnd, a3, a4, zI_sub, show (1 : Int32) = zI 1 from rfl, zI_sub, g_in, bnd]
  have e1 : (0 ≤ zI ((col : Int) - rCo r) ∧ zI ((col : Int) - rCo r) ≤ zI ((rLe r : Int) - 1)) ↔ (rCo r ≤ col ∧ col < rCo r + rLe r) := by
    rw [show (0 : Int32) = zI 0 from rfl, zle (by omega) (by omega) (by omega) (by omega), zle (by omega) (by omega) (by omega) (by omega)]; omega
  by_cases q : rCo r ≤ col ∧ col < rCo r + rLe r
  · have e2 : (5 : Int32) + zI (rFr r) + zI ((col : Int) - rCo r) = zI ((5 + (rFr r + (col - rCo r)) : Nat) : Int) := by
      rw [show (5 : Int32) = zI 5 from rfl, zI_add, zI_add]; congr 1; omega
    rw [if_pos (e1.mpr q), if_neg (by decide), bnd, bnd, a1, a6, e2, g_of (by omega) (by omega), bnd, if_pos q, ← Nat.add_assoc, p5 _ (by omega)]
  · rw [if_neg (fun x => q (e1.mp x)), if_pos rfl, if_neg q]
theorem g_pagesR {N : MS} {P : PoT} {W H : Nat} (ho : okP P) (hW : 12 ≤ W) (hW2 : W ≤ 60) (hH : 4 ≤ H) (hr : RM N (layA P W P.2.1)) (hq : QM N (pagQ P W H P.2.1) (layA P W P.2.1).1) : g_X11_pages N = some (zI (pgN P W H)) ∧ pgN P W H ≤ rwN P W := by
  have h480 := rwN_le ho hW hW2
  obtain ⟨i1, i2, i3, i4, i5⟩ := PI_pag P (W := W) hH P.2.1
  have e17 : mF N 17 = zI (rwN P W) := hr.1
  have i3 : qE (pagQ P W H P.2.1) = false → 0 < rwN P W ∧ qF (pagQ P W H P.2.1) (rwN P W - 1) = qPg (pagQ P W H P.2.1) ∧ qPg (pagQ P W H P.2.1) + 1 ≤ rwN P W := i3
  have hq4 : ∀ i, i < rwN P W → mA N 10 i = zI (qF (pagQ P W H P.2.1) i) := fun i hi => (hq.2.2.2 i hi).1
  rw [g_X11_pages, e17]
  unfold pgN
  by_cases q : P.2.1 = 0
  · have r0 : rwN P W = 0 := by unfold rwN; rw [q]; rfl
    rw [r0, if_neg (fun x => x rfl), if_pos q]; exact ⟨rfl, Nat.le_refl 0⟩
  · obtain ⟨j1, j2, j3⟩ := i3 (pagQ_E P W H P.2.1 (by omega))
    have ne : ¬ zI ((rwN P W : Nat) : Int) = 0 := fun x => by have := (zN_eq (b := 0) (by omega) (by omega)).mp x; omega
    rw [if_pos ne, zN_sub1 j1, ix_l _ _ (by omega) (by omega), bnd, hq4 (rwN P W - 1) (by omega), j2, zN_add1, if_neg q]
    exact ⟨rfl, j3⟩
theorem g_rowR {M : MS} {P : PoT} {hs : Nat → PoT} {c : Nat} {T : Nat → Int32} {n : Nat} (h : MI M P hs c T n) (z w : Int) (z1 : -2147483648 ≤ z) (z2 : z ≤ 2147483647) (w1 : -2147483648 ≤ w) (w2 : w ≤ 2147483647) :
    ∃ N, g_X11_row M (zI z) (zI w) = some (if 0 ≤ z ∧ 0 ≤ w ∧ w ≤ 8 then (if z < rwN P (P.2.2 0) then zI (rowV P (P.2.2 0) (P.2.2 1) z.toNat w.toNat) else -1) else -2, N) ∧ MI N P hs c T n := by
  have ho := h.2.1
  obtain ⟨s1, s2, s3, s4, s5, s6, s7⟩ := ho.2.2
  have h480 := rwN_le ho s1 s2
  have e0 : (zI z < 0) ↔ z < 0 := zlt (b := 0) z1 z2 (by omega) (by omega)
  rw [g_X11_row]
  by_cases q : z < 0
  · rw [if_pos (e0.mpr q), if_neg (by omega)]; exact ⟨_, rfl, h⟩
  · have e : g_X11_in M (zI w) 0 8 = some (if 0 ≤ w ∧ w ≤ 8 then 1 else 0) := z_in w 8 w1 w2 (by decide) M
    rw [if_neg (fun x => q (e0.mp x)), e, bnd]
    by_cases q2 : 0 ≤ w ∧ w ≤ 8
    · obtain ⟨N, a1, a2, a3, -⟩ := g_drawn h
      have e17 : mF N 17 = zI (rwN P (P.2.2 0)) := a2.2.2.1.1.1
      have e1 : (zI (rwN P (P.2.2 0) : Int) ≤ zI z) ↔ (rwN P (P.2.2 0) : Int) ≤ z := zle (by omega) (by omega) z1 z2
      have eR : ∀ A B : Int32, (if 0 ≤ z ∧ 0 ≤ w ∧ w ≤ 8 then A else B) = A := fun A B => if_pos ⟨by omega, q2⟩
      rw [if_pos q2, if_pos (by decide), a1, bnd, e17, eR]
      by_cases q3 : z < rwN P (P.2.2 0)
      · obtain ⟨i, rfl⟩ : ∃ k : Nat, z = k := ⟨z.toNat, by omega⟩
        obtain ⟨m, rfl⟩ : ∃ m : Nat, w = m := ⟨w.toNat, by omega⟩
        have e2 : ¬ (zI (rwN P (P.2.2 0) : Int) ≤ zI (i : Int)) := fun x => by have := e1.mp x; omega
        have e3 : ∀ A B : Int32, (if (i : Int) < rwN P (P.2.2 0) then A else B) = A := fun A B => if_pos q3
        rw [if_neg e2, g_rowPart a2.1 ho s1 s2 a2.2.2.1.1 a2.2.2.2.1 (by omega) (by omega), bnd, e3]
        exact ⟨_, rfl, a3⟩
      · have e3 : ∀ A B : Int32, (if z < rwN P (P.2.2 0) then A else B) = B := fun A B => if_neg q3
        rw [if_pos (e1.mpr (by omega)), e3]
        exact ⟨_, rfl, a3⟩
    · rw [if_neg q2, if_neg (by decide), if_neg (fun x => q2 x.2)]; exact ⟨_, rfl, h⟩
/-- the byte at a place of a page -/
def atV (P : PoT) (W H p q col : Nat) : Int32 := match atF (qfF P W H) (qfL P W H) p q (rwN P W) 0 with
  | none => 32
  | some i => byV P W i col
theorem g_at60 {N : MS} {P : PoT} {W H : Nat} (hp : PM N P) (ho : okP P) (hW : 12 ≤ W) (hW2 : W ≤ 60) (hH : 4 ≤ H) (hH2 : H ≤ 30) (hr : RM N (layA P W P.2.1)) (hq : QM N (pagQ P W H P.2.1) (layA P W P.2.1).1) {p q col : Nat} (hpp : p ≤ 1000) (hqq : q ≤ 1000) (hc : col ≤ 1000) : ∀ (d i f : Nat), i + d = rwN P W → d < f → LGX11_at_60 f N (zI p) (zI q) (zI col) (zI i) = some (match atF (qfF P W H) (qfL P W H) p q d i with
  | none => .inr ()
  | some j => .inl (byV P W j col, N)) := by
  have h480 := rwN_le ho hW hW2
  obtain ⟨i1, i2, i3, i4, i5⟩ := PI_pag P (W := W) hH P.2.1
  have e17 : mF N 17 = zI (rwN P W) := hr.1
  intro d
  induction d with
  | zero =>
    intro i f hi hf
    obtain ⟨f, rfl⟩ : ∃ f1, f = f1 + 1 := ⟨f - 1, by omega⟩
    rw [LGX11_at_60, e17, if_pos ((zN_le (by omega) (by omega)).mpr (by omega))]; rfl
  | succ d ih =>
    intro i f hi hf
    obtain ⟨f, rfl⟩ : ∃ f1, f = f1 + 1 := ⟨f - 1, by omega⟩
    have hir : i < rwN P W := by omega
    obtain ⟨b1, b2⟩ := hq.2.2.2 i hir
    obtain ⟨j1, j2⟩ := i2 i hir
    have hpg : qPg (pagQ P W H P.2.1) ≤ 480 := by
      have er : (layA P W P.2.1).1 = rwN P W := rfl
      cases x : qE (pagQ P W H P.2.1) with
      | false => have := (i3 x).2.2; omega
      | true => have := (i4 x).2; omega
    rw [LGX11_at_60, e17, if_neg (fun x => by have := (zN_le (by omega) (by omega)).mp x; omega), ix_l _ _ (by omega) (by omega), bnd, b1, bnd, b2, atF]
    have ef : (zI ((qF (pagQ P W H P.2.1) i : Nat) : Int) = zI p) ↔ qfF P W H i = p := zN_eq (by omega) (by omega)
    have el : (zI ((qL (pagQ P W H P.2.1) i : Nat) : Int) = zI q) ↔ qfL P W H i = q := zN_eq (by omega) (by omega)
    by_cases x1 : qfF P W H i = p
    · rw [if_neg (fun x => x (ef.mpr x1))]
      by_cases x2 : qfL P W H i = q
      · rw [if_neg (fun x => x (el.mpr x2)), g_byteAt hp ho hW hW2 hr hir hc, bnd, if_pos ⟨x1, x2⟩]; rfl
      · rw [if_pos (fun x => x2 (el.mp x)), if_neg (fun x => x2 x.2), sb_inr1, zN_add1]
        exact ih (i + 1) f (by omega) (by omega)
    · rw [if_pos (fun x => x1 (ef.mp x)), if_neg (fun x => x1 x.1), sb_inr1, zN_add1]
      exact ih (i + 1) f (by omega) (by omega)
theorem g_atR {M : MS} {P : PoT} {hs : Nat → PoT} {c : Nat} {T : Nat → Int32} {n : Nat} (h : MI M P hs c T n) (a b e : Int) (a1 : -2147483648 ≤ a) (a2 : a ≤ 2147483647) (b1 : -2147483648 ≤ b) (b2 : b ≤ 2147483647) (e1 : -2147483648 ≤ e) (e2 : e ≤ 2147483647) :
    ∃ N, g_X11_at M (zI a) (zI b) (zI e) = some (if (0 ≤ a ∧ a < pgN P (P.2.2 0) (P.2.2 1)) ∧ (0 ≤ b ∧ b < P.2.2 1) ∧ 0 ≤ e ∧ e < P.2.2 0 then atV P (P.2.2 0) (P.2.2 1) a.toNat b.toNat e.toNat else -2, N) ∧ MI N P hs c T n := by
  have ho := h.2.1
  obtain ⟨s1, s2, s3, s4, s5, s6, s7⟩ := ho.2.2
  have h480 := rwN_le ho s1 s2
  obtain ⟨N, d1, d2, d3, -⟩ := g_drawn h
  obtain ⟨pg, pgl⟩ := g_pagesR ho s1 s2 s3 d2.2.2.1.1 d2.2.2.2.1
  have inn : ∀ (z : Int) (m : Nat), -2147483648 ≤ z → z ≤ 2147483647 → m ≤ 100000 → g_X11_in N (zI z) 0 (zI (m : Int) - 1) = some (if 0 ≤ z ∧ z < m then 1 else 0) := by
    intro z m h1 h2 h3
    have em : zI (m : Int) - 1 = zI ((m : Int) - 1) := zI_sub m 1
    rw [em, g_in]
    have ee : (0 ≤ zI z ∧ zI z ≤ zI ((m : Int) - 1)) ↔ (0 ≤ z ∧ z < m) := by
      rw [show (0 : Int32) = zI 0 from rfl, zle (by omega) (by omega) (by omega) (by omega), zle (by omega) (by omega) (by omega) (by omega)]; omega
    by_cases y : 0 ≤ z ∧ z < m
    · rw [if_pos (ee.mpr y), if_pos y]
    · rw [if_neg (fun x => y (ee.mp x)), if_neg y]
  have i42 : ix (2042 : Int32) 2046 = some 2042 := rfl
  have i41 : ix (2041 : Int32) 2046 = some 2041 := rfl
  have q0 : mA N 0 2041 = zI (P.2.2 0) := PM_s d2.1 (i := 0) (by omega)
  have q1 : mA N 0 2042 = zI (P.2.2 1) := PM_s d2.1 (i := 1) (by omega)
  rw [g_X11_at, d1, bnd, pg, bnd, inn a _ a1 a2 (by omega), bnd]
  by_cases x1 : 0 ≤ a ∧ a < pgN P (P.2.2 0) (P.2.2 1)
  · rw [if_pos x1, if_neg (by decide), i42, bnd, q1, inn b _ b1 b2 (by omega), bnd]
    by_cases x2 : 0 ≤ b ∧ b < P.2.2 1
    · rw [if_pos x2, if_neg (by decide), i41, bnd, q0, inn e _ e1 e2 (by omega), bnd]
      by_cases x3 : 0 ≤ e ∧ e < P.2.2 0
      · obtain ⟨p, rfl⟩ : ∃ p : Nat, a = p := ⟨a.toNat, by omega⟩
        obtain ⟨q, rfl⟩ : ∃ p : Nat, b = p := ⟨b.toNat, by omega⟩
        obtain ⟨m, rfl⟩ : ∃ p : Nat, e = p := ⟨e.toNat, by omega⟩
        have g := g_at60 d2.1 ho s1 s2 s3 s4 d2.2.2.1.1 d2.2.2.2.1 (p := p) (q := q) (col := m) (by omega) (by omega) (by omega) (rwN P (P.2.2 0)) 0 FU (by omega) (by simp only [FU]; omega)
        have g' : LGX11_at_60 FU N (zI p) (zI q) (zI m) 0 = _ := g
        rw [if_pos x3, if_pos (by decide), g', if_pos ⟨x1, x2, x3⟩]
        refine ⟨N, ?_, d3⟩
        show _ = some (atV P (P.2.2 0) (P.2.2 1) p q m, N)
        unfold atV
        cases atF (qfF P (P.2.2 0) (P.2.2 1)) (qfL P (P.2.2 0) (P.2.2 1)) p q (rwN P (P.2.2 0)) 0 <;> rfl
      · rw [if_neg x3, if_neg (by decide), if_neg (fun x => x3 x.2.2)]; exact ⟨_, rfl, d3⟩
    · rw [if_neg x2, if_pos rfl, if_neg (fun x => x2 x.2.1)]; exact ⟨_, rfl, d3⟩
  · rw [if_neg x1, if_pos rfl, if_neg (fun x => x1 x.1)]; exact ⟨_, rfl, d3⟩

/-- a page's properties -/
def pgD (P : PoT) (W H p : Nat) : Nat × Nat × Nat × Nat := pgS (qfF P W H) (qfL P W H) (XR (layA P W P.2.1)) p (rwN P W)
def pgV (P : PoT) (W H p w : Nat) : Nat := if w = 0 then (pgD P W H p).2.1 else if w = 1 then (pgD P W H p).2.2.1 else if w = 2 then mkS P W (pagQ P W H P.2.1) p else if w = 3 then (pgD P W H p).1 else (pgD P W H p).2.2.2
/-- every page has a row -/
def Pos (P : PoT) (W H : Nat) : Prop := ∀ p, p < pgN P W H → 0 < (pgD P W H p).2.1
theorem g_fst1 {N : MS} {P : PoT} {W H : Nat} (ho : okP P) (hW : 12 ≤ W) (hW2 : W ≤ 60) (hH : 4 ≤ H) (hq : QM N (pagQ P W H P.2.1) (layA P W P.2.1).1) {p : Nat} (hpos : 0 < (pgD P W H p).2.1) (hp1 : p ≤ 1000) : ∀ (d i f : Nat), i + d = (pgD P W H p).1 → d < f → LGX11_firstOn_2 f N (zI p) (zI i) = some (zI (pgD P W H p).1) := by
  have h480 := rwN_le ho hW hW2
  obtain ⟨i1, i2, i3, i4, i5⟩ := PI_pag P (W := W) hH P.2.1
  have hin := (pgS_in (L := qfL P W H) (X := XR (layA P W P.2.1)) (p := p) (F := qfF P W H) (rwN P W) i1).2 hpos
  obtain ⟨c1, c2⟩ := pgS_lt (F := qfF P W H) (L := qfL P W H) (X := XR (layA P W P.2.1)) (p := p) (rwN P W) hpos
  have hpg : qPg (pagQ P W H P.2.1) ≤ 480 := by
    have e : (layA P W P.2.1).1 = rwN P W := rfl
    cases x : qE (pagQ P W H P.2.1) with
    | false => have := (i3 x).2.2; omega
    | true => have := (i4 x).2; omega
  have ed : pgS (qfF P W H) (qfL P W H) (XR (layA P W P.2.1)) p (rwN P W) = pgD P W H p := rfl
  rw [ed] at hin c1 c2
  intro d
  induction d with
  | zero =>
    intro i f hi hf
    obtain ⟨f, rfl⟩ : ∃ f1, f = f1 + 1 := ⟨f - 1, by omega⟩
    have e : i = (pgD P W H p).1 := by omega
    subst e
    have b1 : mA N 10 (pgD P W H p).1 = zI (qfF P W H (pgD P W H p).1) := (hq.2.2.2 _ c1).1
    rw [LGX11_firstOn_2, ix_l _ _ (by omega) (by omega), bnd, b1, c2, if_pos rfl]
  | succ d ih =>
    intro i f hi hf
    obtain ⟨f, rfl⟩ : ∃ f1, f = f1 + 1 := ⟨f - 1, by omega⟩
    have hir : i < rwN P W := by omega
    have b1 : mA N 10 i = zI (qfF P W H i) := (hq.2.2.2 _ hir).1
    have ne : qfF P W H i ≠ p := fun x => by have := (hin i hir).mp x; omega
    have jl : qfF P W H i ≤ 480 := Nat.le_trans (i2 i hir).1 hpg
    rw [LGX11_firstOn_2, ix_l _ _ (by omega) (by omega), bnd, b1, if_neg (fun x => ne ((zN_eq (by omega) (by omega)).mp x)), zN_add1]
    exact ih (i + 1) f (by omega) (by omega)
theorem g_firstOn {N : MS} {P : PoT} {W H : Nat} (ho : okP P) (hW : 12 ≤ W) (hW2 : W ≤ 60) (hH : 4 ≤ H) (hq : QM N (pagQ P W H P.2.1) (layA P W P.2.1).1) {p : Nat} (hpos : 0 < (pgD P W H p).2.1) (hp1 : p ≤ 1000) : g_X11_firstOn N (zI p) = some (zI (pgD P W H p).1) := by
  have h480 := rwN_le ho hW hW2
  obtain ⟨c1, c2⟩ := pgS_lt (F := qfF P W H) (L := qfL P W H) (X := XR (layA P W P.2.1)) (p := p) (rwN P W) hpos
  have c1' : (pgD P W H p).1 < rwN P W := c1
  have e := g_fst1 ho hW hW2 hH hq hpos hp1 (pgD P W H p).1 0 FU (by omega) (by simp only [FU]; omega)
  have e' : LGX11_firstOn_2 FU N (zI p) 0 = _ := e
  rw [g_X11_firstOn, e', bnd]
theorem g_isMarked {N : MS} {P : PoT} {W H : Nat} (hp : PM N P) (ho : okP P) (hW : 12 ≤ W) (hW2 : W ≤ 60) (hH : 4 ≤ H) (hr : RM N (layA P W P.2.1)) (hq : QM N (pagQ P W H P.2.1) (layA P W P.2.1).1) (hps : Pos P W H) {p : Nat} (hp1 : p < pgN P W H) : g_X11_isMarked N (zI p) = some (zI (mkS P W (pagQ P W H P.2.1) p)) := by
  have h480 := rwN_le ho hW hW2
  have h24 := ho.1
  obtain ⟨pg, pgl⟩ := g_pagesR ho hW hW2 hH hr hq
  have epg : pgN P W H = qPg (pagQ P W H P.2.1) + 1 := by
    unfold pgN at hp1 ⊢
    by_cases z : P.2.1 = 0
    · rw [if_pos z] at hp1; omega
    · rw [if_neg z]
  rw [g_X11_isMarked, pg, bnd, zN_add1]
  by_cases q : p + 1 < pgN P W H
  · have hpos := hps (p + 1) q
    obtain ⟨c1, c2⟩ := pgS_lt (F := qfF P W H) (L := qfL P W H) (X := XR (layA P W P.2.1)) (p := p + 1) (rwN P W) hpos
    have ef : fpS P W (pagQ P W H P.2.1) (p + 1) = (pgD P W H (p + 1)).1 := rfl
    have c1' : (pgD P W H (p + 1)).1 < rwN P W := c1
    have fo := g_firstOn ho hW hW2 hH hq hpos (by omega)
    unfold mkS
    rw [ef]
    generalize (pgD P W H (p + 1)).1 = fp at *
    obtain ⟨k, l1, l2, l3⟩ := layA_in P W P.2.1 fp c1'
    obtain ⟨r1, r2⟩ := layA_row P W l1 l2 l3
    have hf := fst_iff l1 l2 l3
    obtain ⟨a1, a2, a3, a4, a5, a6⟩ := hr.2 fp c1'
    rw [if_pos ((zN_lt (by omega) (by omega)).mpr q), fo, bnd, ix_l _ _ (by omega) (by omega), bnd, a2, bnd, a1, r1, r2]
    have hx : fp - (layA P W k).1 ≤ 1000 := by omega
    have ez : (zI ((fp - (layA P W k).1 : Nat) : Int) = 0) ↔ fp - (layA P W k).1 = 0 := zN_eq (b := 0) (by omega) (by omega)
    by_cases y : fp = (layA P W k).1
    · rw [if_neg (fun x => x (ez.mpr (by omega))), g_bg hp ho (by omega), bnd]
      cases hb : bgS P k with
      | true => rw [if_neg (show ¬ (if true = true then (1 : Int32) else 0) = 0 by decide), if_pos ⟨by omega, hf.mpr ⟨y, hb⟩⟩]; rfl
      | false =>
        rw [if_pos (show (if false = true then (1 : Int32) else 0) = 0 from rfl), if_neg (fun x => by have := (hf.mp x.2).2; rw [hb] at this; cases this)]; rfl
    · rw [if_pos (fun x => by have := ez.mp x; omega), if_neg (fun x => y (hf.mp x.2).1)]; rfl
  · rw [if_neg (fun x => q ((zN_lt (by omega) (by omega)).mp x))]
    unfold mkS
    rw [if_neg (fun x => by have := x.1; omega)]; rfl
theorem g_pp11 {N : MS} {P : PoT} {W H : Nat} (ho : okP P) (hW : 12 ≤ W) (hW2 : W ≤ 60) (hH : 4 ≤ H) (hH2 : H ≤ 30) (hr : RM N (layA P W P.2.1)) (hq : QM N (pagQ P W H P.2.1) (layA P W P.2.1).1) {p : Nat} (hp1 : p ≤ 1000) (l2 : Int32) : ∀ (d i f : Nat) (v4 : Nat), i + d = rwN P W → d < f → (v4 = (pgS (qfF P W H) (qfL P W H) (XR (layA P W P.2.1)) p i).2.2.1 - 1) → ((pgS (qfF P W H) (qfL P W H) (XR (layA P W P.2.1)) p i).2.1 = 0 → (pgS (qfF P W H) (qfL P W H) (XR (layA P W P.2.1)) p i).2.2.1 = 0) →
    LGX11_pagePart_11 f N (zI p) l2 (zI (pgS (qfF P W H) (qfL P W H) (XR (layA P W P.2.1)) p i).2.1) (zI v4) (zI (pgS (qfF P W H) (qfL P W H) (XR (layA P W P.2.1)) p i).2.2.2) (zI i) = some (zI (pgD P W H p).2.1, zI (((pgD P W H p).2.2.1 - 1 : Nat) : Int), zI (pgD P W H p).2.2.2) := by
  have h480 := rwN_le ho hW hW2
  obtain ⟨i1, i2, i3, i4, i5⟩ := PI_pag P (W := W) hH P.2.1
  have e17 : mF N 17 = zI (rwN P W) := hr.1
  have hpg : qPg (pagQ P W H P.2.1) ≤ 480 := by
    have e : (layA P W P.2.1).1 = rwN P W := rfl
    cases x : qE (pagQ P W H P.2.1) with
    | false => have := (i3 x).2.2; omega
    | true => have := (i4 x).2; omega
  intro d
  induction d with
  | zero =>
    intro i f v4 hi hf hv hz
    obtain ⟨f, rfl⟩ : ∃ f1, f = f1 + 1 := ⟨f - 1, by omega⟩
    have e : i = rwN P W := by omega
    subst e
    rw [LGX11_pagePart_11, e17, if_pos ((zN_le (by omega) (by omega)).mpr (Nat.le_refl _)), hv]; rfl
  | succ d ih =>
    intro i f v4 hi hf hv hz
    obtain ⟨f, rfl⟩ : ∃ f1, f = f1 + 1 := ⟨f - 1, by omega⟩
    have hir : i < rwN P W := by omega
    have b1 : mA N 10 i = zI (qfF P W H i) := (hq.2.2.2 _ hir).1
    have b2 : mA N 11 i = zI (qfL P W H i) := (hq.2.2.2 _ hir).2
    have b5 : mA N 5 i = zI (XR (layA P W P.2.1) i) := (hr.2 i hir).2.1
    have hx := XR_le ho hW hW2 hir
    have jl : qfF P W H i ≤ 480 := Nat.le_trans (i2 i hir).1 hpg
    have ef : (zI ((qfF P W H i : Nat) : Int) = zI p) ↔ qfF P W H i = p := zN_eq (by omega) (by omega)
    have ez : (zI ((XR (layA P W P.2.1) i : Nat) : Int) = 0) ↔ XR (layA P W P.2.1) i = 0 := zN_eq (b := 0) (by omega) (by omega)
    have ex : (if ¬ zI ((XR (layA P W P.2.1) i : Nat) : Int) = 0 then some (0 : Int32) else some 1) = some (zI (((if XR (layA P W P.2.1) i = 0 then 1 else 0 : Nat)) : Int)) := by
      by_cases z : XR (layA P W P.2.1) i = 0
      · rw [if_neg (fun x => x (ez.mpr z)), if_pos z]; rfl
      · rw [if_pos (fun x => z (ez.mp x)), if_neg z]; rfl
    rw [LGX11_pagePart_11, e17, if_neg (fun x => by have := (zN_le (by omega) (by omega)).mp x; omega), ix_l _ _ (by omega) (by omega), bnd, b1]
    have es : pgS (qfF P W H) (qfL P W H) (XR (layA P W P.2.1)) p (i + 1) = if qfF P W H i = p then ((if (pgS (qfF P W H) (qfL P W H) (XR (layA P W P.2.1)) p i).2.1 = 0 then i else (pgS (qfF P W H) (qfL P W H) (XR (layA P W P.2.1)) p i).1), (pgS (qfF P W H) (qfL P W H) (XR (layA P W P.2.1)) p i).2.1 + 1, qfL P W H i + 1, (pgS (qfF P W H) (qfL P W H) (XR (layA P W P.2.1)) p i).2.2.2 + (if XR (layA P W P.2.1) i = 0 then 1 else 0)) else pgS (qfF P W H) (qfL P W H) (XR (layA P W P.2.1)) p i := rfl
    by_cases x1 : qfF P W H i = p
    · rw [if_pos x1] at es
      have e := ih (i + 1) f (qfL P W H i) (by omega) (by omega) (by rw [es]; show qfL P W H i = qfL P W H i + 1 - 1; omega) (by rw [es]; intro y; have y' : (pgS (qfF P W H) (qfL P W H) (XR (layA P W P.2.1)) p i).2.1 + 1 = 0 := y; omega)
      rw [es] at e
      rw [if_neg (fun x => x (ef.mpr x1)), bnd, bnd, b5, ex, bnd, bnd, b2, zN_add1, zN_add, zN_add1]
      exact e
    · rw [if_neg x1] at es
      have e := ih (i + 1) f v4 (by omega) (by omega) (by rw [es]; exact hv) (by rw [es]; exact hz)
      rw [es] at e
      rw [if_pos (fun x => x1 (ef.mp x)), bnd, zN_add1]
      exact e
theorem pgS_pl {F L X : Nat → Nat} {p : Nat} : ∀ r, 0 < (pgS F L X p r).2.1 → 0 < (pgS F L X p r).2.2.1
  | 0, h => absurd h (Nat.lt_irrefl 0)
  | r + 1, h => by
    rw [pgS] at h ⊢
    by_cases q : F r = p
    · rw [if_pos q]; exact Nat.succ_pos _
    · rw [if_neg q] at h ⊢; exact pgS_pl r h
theorem g_pagePart {N : MS} {P : PoT} {W H : Nat} (hp : PM N P) (ho : okP P) (hW : 12 ≤ W) (hW2 : W ≤ 60) (hH : 4 ≤ H) (hH2 : H ≤ 30) (hr : RM N (layA P W P.2.1)) (hq : QM N (pagQ P W H P.2.1) (layA P W P.2.1).1) (hps : Pos P W H) {p w : Nat} (hp1 : p < pgN P W H) (hw : w < 5) : g_X11_pagePart N (zI p) (zI w) = some (zI (pgV P W H p w)) := by
  have h480 := rwN_le ho hW hW2
  obtain ⟨pg, pgl⟩ := g_pagesR ho hW hW2 hH hr hq
  have hpos := hps p hp1
  have hpl : 0 < (pgD P W H p).2.2.1 := pgS_pl _ hpos
  have e := g_pp11 ho hW hW2 hH hH2 hr hq (p := p) (by omega) (zI w) (rwN P W) 0 FU 0 (by omega) (by simp only [FU]; omega) rfl (fun _ => rfl)
  have e' : LGX11_pagePart_11 FU N (zI p) (zI w) 0 0 0 0 = _ := e
  have em : ∀ m : Nat, m ≤ 1 → (if zI (m : Int) = 0 then some (0 : Int32) else some 1) = some (zI m) := by
    intro m hm
    rcases (show m = 0 ∨ m = 1 by omega) with rfl | rfl <;> rfl
  have hm1 : mkS P W (pagQ P W H P.2.1) p ≤ 1 := by unfold mkS; split <;> omega
  rw [g_X11_pagePart, e', bnd]
  rcases (show w = 0 ∨ w = 1 ∨ w = 2 ∨ w = 3 ∨ w = 4 by omega) with rfl | rfl | rfl | rfl | rfl
  · rw [if_pos (by decide)]; rfl
  · rw [if_neg (by decide), if_pos (by decide), zN_add1, Nat.sub_add_cancel hpl]; rfl
  · rw [if_neg (by decide), if_neg (by decide), if_pos (by decide), g_isMarked hp ho hW hW2 hH hr hq hps hp1, bnd, em _ hm1]; rfl
  · rw [if_neg (by decide), if_neg (by decide), if_neg (by decide), if_pos (by decide), g_firstOn ho hW hW2 hH hq hpos (by omega), bnd]; rfl
  · rw [if_neg (by decide), if_neg (by decide), if_neg (by decide), if_neg (by decide)]; rfl
theorem g_pageR {M : MS} {P : PoT} {hs : Nat → PoT} {c : Nat} {T : Nat → Int32} {n : Nat} (h : MI M P hs c T n) (hps : Pos P (P.2.2 0) (P.2.2 1)) (a w : Int) (a1 : -2147483648 ≤ a) (a2 : a ≤ 2147483647) (w1 : -2147483648 ≤ w) (w2 : w ≤ 2147483647) :
    ∃ N, g_X11_page M (zI a) (zI w) = some (if (0 ≤ a ∧ a < pgN P (P.2.2 0) (P.2.2 1)) ∧ 0 ≤ w ∧ w ≤ 4 then zI (pgV P (P.2.2 0) (P.2.2 1) a.toNat w.toNat) else -2, N) ∧ MI N P hs c T n := by
  have ho := h.2.1
  obtain ⟨s1, s2, s3, s4, s5, s6, s7⟩ := ho.2.2
  have h480 := rwN_le ho s1 s2
  obtain ⟨N, d1, d2, d3, -⟩ := g_drawn h
  obtain ⟨pg, pgl⟩ := g_pagesR ho s1 s2 s3 d2.2.2.1.1 d2.2.2.2.1
  have em : zI (pgN P (P.2.2 0) (P.2.2 1) : Int) - 1 = zI ((pgN P (P.2.2 0) (P.2.2 1) : Int) - 1) := zI_sub _ 1
  have ee : (0 ≤ zI a ∧ zI a ≤ zI ((pgN P (P.2.2 0) (P.2.2 1) : Int) - 1)) ↔ (0 ≤ a ∧ a < pgN P (P.2.2 0) (P.2.2 1)) := by
    rw [show (0 : Int32) = zI 0 from rfl, zle (by omega) (by omega) (by omega) (by omega), zle (by omega) (by omega) (by omega) (by omega)]; omega
  rw [g_X11_page, d1, bnd, pg, bnd, em, g_in, bnd]
  by_cases x1 : 0 ≤ a ∧ a < pgN P (P.2.2 0) (P.2.2 1)
  · have e4 : g_X11_in N (zI w) 0 4 = some (if 0 ≤ w ∧ w ≤ 4 then 1 else 0) := z_in w 4 w1 w2 (by decide) N
    rw [if_pos (ee.mpr x1), if_neg (by decide), e4, bnd]
    by_cases x2 : 0 ≤ w ∧ w ≤ 4
    · obtain ⟨p, rfl⟩ : ∃ p : Nat, a = p := ⟨a.toNat, by omega⟩
      obtain ⟨m, rfl⟩ : ∃ p : Nat, w = p := ⟨w.toNat, by omega⟩
      rw [if_pos x2, if_neg (by decide), g_pagePart d2.1 ho s1 s2 s3 s4 d2.2.2.1.1 d2.2.2.2.1 hps (by omega) (by omega), bnd, if_pos ⟨x1, x2⟩]
      exact ⟨_, rfl, d3⟩
    · rw [if_neg x2, if_pos rfl, if_neg (fun x => x2 x.2)]; exact ⟨_, rfl, d3⟩
  · rw [if_neg (fun x => x1 (ee.mp x)), if_pos rfl, if_neg (fun x => x1 x.1)]; exact ⟨_, rfl, d3⟩

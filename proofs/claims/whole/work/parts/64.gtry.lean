/-- a width or a height that is tried changes nothing else -/
theorem lay_set {P : PoT} {W v j : Nat} (hj : j = 0 ∨ j = 1) : ∀ k, layA (setP P j v) W k = layA P W k
  | 0 => rfl
  | k + 1 => by
    show layL (setP P j v) W k (layA (setP P j v) W k) = layL P W k (layA P W k)
    rw [lay_set hj k]
    rcases hj with rfl | rfl <;> rfl
theorem szN_set {P : PoT} {v j : Nat} : ∀ k, szN (setP P j v) k = szN P k
  | 0 => rfl
  | k + 1 => by
    show (if bgS (setP P j v) k = true then szN (setP P j v) k + 1 else szN (setP P j v) k) = (if bgS P k = true then szN P k + 1 else szN P k)
    rw [szN_set k]; rfl
theorem szO_set {P : PoT} {v j k : Nat} : szO (setP P j v) k = szO P k := by unfold szO; rw [szN_set]
theorem lrS_set {P : PoT} {W v j k : Nat} (hj : j = 0 ∨ j = 1) : lrS (setP P j v) W k = lrS P W k := by unfold lrS; rw [lay_set hj, lay_set hj]
theorem srS_set {P : PoT} {W v j : Nat} (hj : j = 0 ∨ j = 1) : ∀ k s, srS (setP P j v) W k s = srS P W k s
  | 0, _ => rfl
  | k + 1, s => by rw [srS, srS, szO_set, lrS_set hj, srS_set hj k s]
theorem pag_set {P : PoT} {W H v j : Nat} (hj : j = 0 ∨ j = 1) : ∀ k, pagQ (setP P j v) W H k = pagQ P W H k
  | 0 => rfl
  | k + 1 => by
    show lineQ (setP P j v) W H k (pagQ (setP P j v) W H k) = lineQ P W H k (pagQ P W H k)
    rw [pag_set hj k]
    unfold lineQ
    rw [lrS_set hj, lay_set hj, szO_set]
    have e1 : srS (setP P j v) W (setP P j v).2.1 (szO P k) = srS P W P.2.1 (szO P k) := srS_set hj _ _
    have e2 : bgS (setP P j v) k = bgS P k := rfl
    have e3 : (setP P j v).2.2 4 = P.2.2 4 := by rcases hj with rfl | rfl <;> rfl
    rw [e1, e2, e3]
theorem pgN_set {P : PoT} {W H v j : Nat} (hj : j = 0 ∨ j = 1) : pgN (setP P j v) W H = pgN P W H := by
  unfold pgN
  show (if P.2.1 = 0 then 0 else qPg (pagQ (setP P j v) W H P.2.1) + 1) = _
  rw [pag_set hj]
theorem rwN_set {P : PoT} {W v j : Nat} (hj : j = 0 ∨ j = 1) : rwN (setP P j v) W = rwN P W := by
  unfold rwN
  show (layA (setP P j v) W P.2.1).1 = _
  rw [lay_set hj]
theorem wiV_set {P : PoT} {W v j : Nat} (hj : j = 0 ∨ j = 1) : wiV (setP P j v) W = wiV P W := by
  funext i
  unfold wiV rwA
  show rWi ((layA (setP P j v) W P.2.1).2 i) = _
  rw [lay_set hj]
theorem set_set (P : PoT) (j v w : Nat) : setP (setP P j v) j w = setP P j w := by
  unfold setP
  have : upN (upN P.2.2 j v) j w = upN P.2.2 j w := by
    funext i; unfold upN; by_cases q : i = j
    · rw [if_pos q, if_pos q]
    · rw [if_neg q, if_neg q, if_neg q]
  show (P.1, P.2.1, upN (upN P.2.2 j v) j w) = _
  rw [this]
theorem set_back (P : PoT) (j v : Nat) : setP (setP P j v) j (P.2.2 j) = P := by
  rw [set_set]
  unfold setP
  have : upN P.2.2 j (P.2.2 j) = P.2.2 := by
    funext i; unfold upN; by_cases q : i = j
    · rw [if_pos q, q]
    · rw [if_neg q]
  rw [this]
theorem set_self (P : PoT) (j : Nat) : setP P j (P.2.2 j) = P := by
  have := set_back P j (P.2.2 j)
  rw [set_set] at this; exact this
theorem PM_set {M : MS} {P : PoT} (hp : PM M P) (ho : okP P) {j v : Nat} (hj : j < 5) : PM (eA M 0 (2041 + j) (zI v)) (setP P j v) := by
  have h24 := ho.1
  refine PE_of (fun k hk => ?_) ?_ (fun i hi => ?_)
  · have hk' : k < P.2.1 := hk
    exact LiE_cp (PE_li (P := P) hp hk') (ho.2.1 k hk').1 (fun j hj => by rw [mA_eA, if_neg (by omega)])
  · rw [mA_eA, if_neg (by omega)]; exact PM_n (P := P) hp
  · show mA (eA M 0 (2041 + j) (zI v)) 0 (2041 + i) = zI (((if i = j then v else P.2.2 i : Nat)) : Int)
    by_cases x : i = j
    · rw [mA_eA, if_pos (by omega), if_pos x]
    · rw [mA_eA, if_neg (by omega), if_neg x]; exact PM_s hp hi
theorem MI_set {M : MS} {P : PoT} {hs : Nat → PoT} {c : Nat} {T : Nat → Int32} {n : Nat} (h : MI M P hs c T n) {j v : Nat} (hj : j < 5) (ho : okP (setP P j v)) : MI (eA M 0 (2041 + j) (zI v)) (setP P j v) hs c T n :=
  ⟨PM_set h.1 h.2.1 hj, ho, HM_c h.2.2.1 (fun j => by rw [mA_eA, if_neg (by omega)]) rfl, MT_c h.2.2.2 (fun j => by rw [mA_eA, if_neg (by omega)]) rfl⟩
/-- the number that a width is tried for -/
def nbW (P : PoT) (what w : Nat) : Nat := if what = 0 then pgN P w (P.2.2 1) else if what = 1 then rwN P w - P.2.1 else smS (wiV P w) (rwN P w)
theorem nbW_le {P : PoT} (ho : okP P) {what w : Nat} (hW : 12 ≤ w) (hW2 : w ≤ 60) : nbW P what w ≤ 100000 := by
  have h480 := rwN_le ho hW hW2
  obtain ⟨s1, s2, s3, s4, s5, s6, s7⟩ := ho.2.2
  unfold nbW
  split
  · obtain ⟨i1, i2, i3, i4, i5⟩ := PI_pag P (W := w) s3 P.2.1
    have e : (layA P w P.2.1).1 = rwN P w := rfl
    unfold pgN
    split
    · omega
    · have := (i3 (pagQ_E P w _ P.2.1 (by omega))).2.2; omega
  · split
    · omega
    · have := smS_le (f := wiV P w) (b := 1) (rwN P w) (fun i hi => (lay_in ho hW hW2 hi).2.2)
      omega
/-- best and least so far -/
def bwS (f : Nat → Nat) : Nat → Nat → Option (Nat × Nat)
  | 0, _ => none
  | j + 1, w0 => match bwS f j w0 with
    | none => some (w0 + j, f (w0 + j))
    | some (b, l) => if l ≤ f (w0 + j) then some (b, l) else some (w0 + j, f (w0 + j))
def bwB (o : Option (Nat × Nat)) : Int32 := match o with
  | none => -1
  | some (b, _) => zI b
def bwL (o : Option (Nat × Nat)) : Int32 := match o with
  | none => 0
  | some (_, l) => zI l
theorem bwS_in (f : Nat → Nat) (w0 : Nat) : ∀ j b l, bwS f j w0 = some (b, l) → w0 ≤ b ∧ b < w0 + j ∧ l = f b
  | 0, b, l, h => by cases h
  | j + 1, b, l, h => by
    rw [bwS] at h
    cases hx : bwS f j w0 with
    | none => rw [hx] at h; simp only [] at h; cases h; exact ⟨by omega, by omega, rfl⟩
    | some x =>
      obtain ⟨b1, l1⟩ := x
      rw [hx] at h
      simp only [] at h
      have := bwS_in f w0 j b1 l1 hx
      split at h
      · cases h; exact ⟨this.1, by omega, this.2.2⟩
      · cases h; exact ⟨by omega, by omega, rfl⟩
theorem bw_step {f : Nat → Nat} {w0 j : Nat} (hf : ∀ i, i < j + 1 → f (w0 + i) ≤ 100000) (hw : w0 + j ≤ 1000) : (if bwB (bwS f j w0) = -1 then some (1 : Int32) else if bwL (bwS f j w0) ≤ zI (f (w0 + j)) then some 0 else some 1).bind (fun x24 => (if x24 = 0 then some (bwB (bwS f j w0)) else some (zI ((w0 + j : Nat) : Int))).bind fun x27 => (if x24 = 0 then some (bwL (bwS f j w0)) else some (zI (f (w0 + j)))).bind fun x29 => some (x27, x29)) = some (bwB (bwS f (j + 1) w0), bwL (bwS f (j + 1) w0)) := by
  have h1 := hf j (by omega)
  rw [bwS]
  cases hx : bwS f j w0 with
  | none => rfl
  | some x =>
    obtain ⟨b, l⟩ := x
    obtain ⟨h2, h3, h4⟩ := bwS_in f w0 j b l hx
    have h5 : l ≤ 100000 := by rw [h4]; have := hf (b - w0) (by omega); rw [show w0 + (b - w0) = b by omega] at this; exact this
    have n1 : ¬ bwB (some (b, l)) = -1 := fun y => by
      have y' : zI (b : Int) = -1 := y
      have := (zeq (b := -1) (by omega) (by omega) (by omega) (by omega)).mp y'; omega
    rw [if_neg n1]
    show (if zI (l : Int) ≤ zI (f (w0 + j)) then some (0 : Int32) else some 1).bind _ = some (bwB (if l ≤ f (w0 + j) then some (b, l) else some (w0 + j, f (w0 + j))), bwL (if l ≤ f (w0 + j) then some (b, l) else some (w0 + j, f (w0 + j))))
    by_cases y : l ≤ f (w0 + j)
    · rw [if_pos ((zN_le (by omega) (by omega)).mpr y), if_pos y]; rfl
    · rw [if_neg (fun z => y ((zN_le (by omega) (by omega)).mp z)), if_neg y]; rfl
theorem g_bw44 {P : PoT} {hs : Nat → PoT} {c : Nat} {T : Nat → Int32} {n : Nat} (ho : okP P) {what : Nat} (hwh : what < 3) (l2 : Int32) : ∀ (d j f : Nat) (M : MS) (w' : Nat), j + d = 49 → d < f → MI M (setP P 0 w') hs c T n →
    ∃ N w'', LGX11_bestWidth_44 f (zI what) l2 (bwB (bwS (nbW P what) j 12)) (bwL (bwS (nbW P what) j 12)) (zI ((12 + j : Nat) : Int)) M = some (bwB (bwS (nbW P what) 49 12), N) ∧ MI N (setP P 0 w'') hs c T n := by
  obtain ⟨s1, s2, s3, s4, s5, s6, s7⟩ := ho.2.2
  intro d
  induction d with
  | zero =>
    intro j f M w' hj hf h
    obtain ⟨f, rfl⟩ : ∃ f1, f = f1 + 1 := ⟨f - 1, by omega⟩
    have e : j = 49 := by omega
    subst e
    exact ⟨M, w', by rw [LGX11_bestWidth_44, if_pos (by decide)], h⟩
  | succ d ih =>
    intro j f M w' hj hf h
    obtain ⟨f, rfl⟩ : ∃ f1, f = f1 + 1 := ⟨f - 1, by omega⟩
    have h60 : ¬ (60 : Int32) < zI ((12 + j : Nat) : Int) := fun x => by have := (zN_lt (a := 60) (by omega) (by omega)).mp x; omega
    have hw1 : 12 ≤ 12 + j := by omega
    have hw2 : 12 + j ≤ 60 := by omega
    have i41 : ix (2041 : Int32) 2046 = some 2041 := rfl
    have hok : okP (setP P 0 (12 + j)) := okP_set ho (by decide) hw1 hw2
    have h1 : MI (eA M 0 2041 (zI ((12 + j : Nat) : Int))) (setP P 0 (12 + j)) hs c T n := by
      have e0 := set_set P 0 w' (12 + j)
      have := MI_set (j := 0) (v := 12 + j) h (by decide) (by rw [e0]; exact hok)
      rw [e0] at this; exact this
    obtain ⟨N, d1, d2, d3, -⟩ := g_drawn h1
    have hr : RM N (layA (setP P 0 (12 + j)) (12 + j) (setP P 0 (12 + j)).2.1) := d2.2.2.1.1
    have hq : QM N (pagQ (setP P 0 (12 + j)) (12 + j) (P.2.2 1) (setP P 0 (12 + j)).2.1) (layA (setP P 0 (12 + j)) (12 + j) (setP P 0 (12 + j)).2.1).1 := d2.2.2.2.1
    have ex : (if ¬ zI (what : Int) = 0 then (if ¬ zI (what : Int) = 1 then (g_X11_withinRows N).bind fun q18 => some q18 else (g_X11_overRows N).bind fun q20 => some q20) else (g_X11_pages N).bind fun q22 => some q22) = some (zI (nbW P what (12 + j))) := by
      rcases (show what = 0 ∨ what = 1 ∨ what = 2 by omega) with rfl | rfl | rfl
      · rw [if_neg (by decide), (g_pagesR hok hw1 hw2 s3 hr hq).1, bnd, pgN_set (Or.inl rfl)]; rfl
      · rw [if_pos (by decide), if_neg (by decide), g_over (PM_n d2.1) hr, bnd, rwN_set (Or.inl rfl)]; rfl
      · rw [if_pos (by decide), if_pos (by decide), g_within hok hw1 hw2 hr, bnd, rwN_set (Or.inl rfl), wiV_set (Or.inl rfl)]; rfl
    obtain ⟨N2, w2, m1, m2⟩ := ih (j + 1) f N (12 + j) (by omega) (by omega) d3
    refine ⟨N2, w2, ?_, m2⟩
    have st := bw_step (f := nbW P what) (w0 := 12) (j := j) (fun i hi => nbW_le ho (by omega) (by omega)) (by omega)
    have st2 := congrArg (fun o => o.bind fun (y : Int32 × Int32) => LGX11_bestWidth_44 f (zI what) l2 y.1 y.2 (zI ((12 + j + 1 : Nat) : Int)) N) st
    simp only [Option.bind_assoc] at st2
    rw [LGX11_bestWidth_44, if_neg h60, i41, bnd, d1, bnd, ex, bnd, zN_add1]
    refine Eq.trans ?_ (st2.trans ?_)
    · simp only [bnd]
    · rw [bnd]; exact m1
theorem g_bestR {M : MS} {P : PoT} {hs : Nat → PoT} {c : Nat} {T : Nat → Int32} {n : Nat} (h : MI M P hs c T n) (w : Int) (w1 : -2147483648 ≤ w) (w2 : w ≤ 2147483647) :
    ∃ N, g_X11_bestWidth M (zI w) = some (if 0 ≤ w ∧ w ≤ 2 then (if P.2.1 = 0 then -3 else bwB (bwS (nbW P w.toNat) 49 12)) else -2, N) ∧ MI N P hs c T n := by
  have ho := h.2.1
  obtain ⟨s1, s2, s3, s4, s5, s6, s7⟩ := ho.2.2
  have h24 := ho.1
  have h40 : ix (2040 : Int32) 2046 = some 2040 := rfl
  have i41 : ix (2041 : Int32) 2046 = some 2041 := rfl
  have e : g_X11_in M (zI w) 0 2 = some (if 0 ≤ w ∧ w ≤ 2 then 1 else 0) := z_in w 2 w1 w2 (by decide) M
  rw [g_X11_bestWidth, e, bnd]
  by_cases q : 0 ≤ w ∧ w ≤ 2
  · obtain ⟨j, rfl⟩ : ∃ m : Nat, w = m := ⟨w.toNat, by omega⟩
    have eR : ∀ A B : Int32, (if 0 ≤ (j : Int) ∧ (j : Int) ≤ 2 then A else B) = A := fun A B => if_pos q
    rw [if_pos q, if_pos (by decide), h40, bnd, PM_n h.1, eR]
    by_cases z : P.2.1 = 0
    · rw [if_neg (fun x => x (by rw [z]; rfl)), if_pos z]; exact ⟨_, rfl, h⟩
    · have ne : ¬ zI (P.2.1 : Int) = 0 := fun x => z ((zN_eq (b := 0) (by omega) (by omega)).mp x)
      obtain ⟨N, w'', a1, a2⟩ := g_bw44 ho (what := j) (by omega) (mA M 0 2041) 49 0 FU M (P.2.2 0) rfl (by simp only [FU]; omega) (by rw [set_self]; exact h)
      have a1' : LGX11_bestWidth_44 FU (zI j) (mA M 0 2041) (-1) 0 12 M = _ := a1
      have q0 : mA M 0 2041 = zI (P.2.2 0) := PM_s h.1 (i := 0) (by omega)
      rw [if_pos ne, i41, bnd, a1', bnd, bnd, if_neg z, q0]
      have hb := MI_set (j := 0) (v := P.2.2 0) a2 (by decide) (by rw [set_back]; exact ho)
      rw [set_back] at hb
      exact ⟨_, rfl, hb⟩
  · rw [if_neg q, if_neg (by decide), if_neg q]; exact ⟨_, rfl, h⟩
/-- the least height -/
def lhS (g : Nat → Nat) (p : Nat) : Nat → Nat → Int32
  | 0, _ => -1
  | d + 1, h => if g h ≤ p then zI h else lhS g p d (h + 1)
theorem g_lh28 {P : PoT} {hs : Nat → PoT} {c : Nat} {T : Nat → Int32} {n : Nat} (ho : okP P) {p : Nat} (hp : p ≤ 99) (l2 : Int32) : ∀ (d f : Nat) (M : MS) (h' : Nat), d ≤ 27 → d < f → MI M (setP P 1 h') hs c T n →
    ∃ N h'', LGX11_leastHeight_28 f (zI p) l2 (lhS (pgN P (P.2.2 0)) p (27 - d) (4 + d)) (zI ((4 : Int) + d - 1)) M = some (lhS (pgN P (P.2.2 0)) p 27 4, N) ∧ MI N (setP P 1 h'') hs c T n := by
  obtain ⟨s1, s2, s3, s4, s5, s6, s7⟩ := ho.2.2
  intro d
  induction d with
  | zero =>
    intro f M h' hd hf h
    obtain ⟨f, rfl⟩ : ∃ f1, f = f1 + 1 := ⟨f - 1, by omega⟩
    exact ⟨M, h', by rw [LGX11_leastHeight_28, if_pos (by decide)], h⟩
  | succ d ih =>
    intro f M h' hd hf h
    obtain ⟨f, rfl⟩ : ∃ f1, f = f1 + 1 := ⟨f - 1, by omega⟩
    have ev : (4 : Int) + (d + 1 : Nat) - 1 = ((4 + d : Nat) : Int) := by omega
    have h4 : ¬ zI ((4 + d : Nat) : Int) < 4 := fun x => by have := (zN_lt (b := 4) (by omega) (by omega)).mp x; omega
    have i42 : ix (2042 : Int32) 2046 = some 2042 := rfl
    have hok : okP (setP P 1 (4 + d)) := okP_set ho (by decide) (show 4 ≤ 4 + d by omega) (show 4 + d ≤ 30 by omega)
    have h1 : MI (eA M 0 2042 (zI ((4 + d : Nat) : Int))) (setP P 1 (4 + d)) hs c T n := by
      have e0 := set_set P 1 h' (4 + d)
      have := MI_set (j := 1) (v := 4 + d) h (by decide) (by rw [e0]; exact hok)
      rw [e0] at this; exact this
    obtain ⟨N, d1, d2, d3, -⟩ := g_drawn h1
    have hr : RM N (layA (setP P 1 (4 + d)) (P.2.2 0) (setP P 1 (4 + d)).2.1) := d2.2.2.1.1
    have hq : QM N (pagQ (setP P 1 (4 + d)) (P.2.2 0) (4 + d) (setP P 1 (4 + d)).2.1) (layA (setP P 1 (4 + d)) (P.2.2 0) (setP P 1 (4 + d)).2.1).1 := d2.2.2.2.1
    obtain ⟨pg, pgl⟩ := g_pagesR hok s1 s2 (show 4 ≤ 4 + d by omega) hr hq
    have h480 := rwN_le hok s1 s2
    rw [pgN_set (Or.inr rfl)] at pg pgl
    obtain ⟨N2, h2, m1, m2⟩ := ih f N (4 + d) (by omega) (by omega) d3
    refine ⟨N2, h2, ?_, m2⟩
    have ex : (if zI (p : Int) < zI (pgN P (P.2.2 0) (4 + d)) then some (lhS (pgN P (P.2.2 0)) p (27 - (d + 1)) (4 + (d + 1))) else some (zI ((4 + d : Nat) : Int))) = some (lhS (pgN P (P.2.2 0)) p (27 - d) (4 + d)) := by
      rw [show 27 - d = (27 - (d + 1)) + 1 by omega, lhS]
      by_cases y : pgN P (P.2.2 0) (4 + d) ≤ p
      · rw [if_neg (fun z => by have := (zN_lt (by omega) (by omega)).mp z; omega), if_pos y]
      · rw [if_pos ((zN_lt (by omega) (by omega)).mpr (by omega)), if_neg y, Nat.add_assoc]
    have em : zI ((4 + d : Nat) : Int) + (-1) = zI ((4 : Int) + d - 1) := by
      rw [show (-1 : Int32) = zI (-1) from rfl, zI_add]; congr 1
    rw [ev, LGX11_leastHeight_28, if_neg h4, i42, bnd, d1, bnd, pg, bnd, ex, bnd, em]
    exact m1
theorem g_leastR {M : MS} {P : PoT} {hs : Nat → PoT} {c : Nat} {T : Nat → Int32} {n : Nat} (h : MI M P hs c T n) (w : Int) (w1 : -2147483648 ≤ w) (w2 : w ≤ 2147483647) :
    ∃ N, g_X11_leastHeight M (zI w) = some (if 1 ≤ w ∧ w ≤ 99 then lhS (pgN P (P.2.2 0)) w.toNat 27 4 else -2, N) ∧ MI N P hs c T n := by
  have ho := h.2.1
  have i42 : ix (2042 : Int32) 2046 = some 2042 := rfl
  have ee : (1 ≤ zI w ∧ zI w ≤ 99) ↔ (1 ≤ w ∧ w ≤ 99) := by
    rw [show (1 : Int32) = zI 1 from rfl, show (99 : Int32) = zI 99 from rfl, zle (by omega) (by omega) (by omega) (by omega), zle (by omega) (by omega) (by omega) (by omega)]
  rw [g_X11_leastHeight, g_in, bnd]
  by_cases q : 1 ≤ w ∧ w ≤ 99
  · obtain ⟨p, rfl⟩ : ∃ m : Nat, w = m := ⟨w.toNat, by omega⟩
    obtain ⟨N, h'', a1, a2⟩ := g_lh28 ho (p := p) (by omega) (mA M 0 2042) 27 FU M (P.2.2 1) (Nat.le_refl _) (by simp only [FU]; omega) (by rw [set_self]; exact h)
    have a1' : LGX11_leastHeight_28 FU (zI p) (mA M 0 2042) (-1) 30 M = _ := a1
    have q0 : mA M 0 2042 = zI (P.2.2 1) := PM_s h.1 (i := 1) (by omega)
    rw [if_pos (ee.mpr q), if_pos (by decide), i42, bnd, a1', bnd, bnd, if_pos q, q0]
    have hb := MI_set (j := 1) (v := P.2.2 1) a2 (by decide) (by rw [set_back]; exact ho)
    rw [set_back] at hb
    exact ⟨_, rfl, hb⟩
  · rw [if_neg (fun x => q (ee.mp x)), if_neg (by decide), if_neg q]; exact ⟨_, rfl, h⟩

/-- what the reference has of a stanza after i rows -/
def fr1 (P : PoT) (W s i : Nat) : Int := if i ≤ znF P W s then -1 else znF P W s
def fr2 (P : PoT) (W s i : Nat) : Nat := min (i - znF P W s) (znR P W s)
theorem g_far11 {N : MS} {P : PoT} {W : Nat} (ho : okP P) (hW : 12 ≤ W) (hW2 : W ≤ 60) (hr : RM N (layA P W P.2.1)) (hd : DM N P W P.2.1) {s : Nat} (hs : s < szN P P.2.1) (l2 : Int32) : ∀ (d i f : Nat), i + d = rwN P W → d < f → LGX11_far_11 f N (zI s) l2 (zI (fr1 P W s i)) (zI (fr2 P W s i)) (zI (mxS (wdV P W) (znF P W s) (fr2 P W s i))) (zI i) = some (zI (znF P W s), zI (znR P W s), zI (mxS (wdV P W) (znF P W s) (znR P W s))) := by
  have h480 := rwN_le ho hW hW2
  have h24 := ho.1
  obtain ⟨sp1, sp2, sp3⟩ := stz_sp (W := W) hs
  have e17 : mF N 17 = zI (rwN P W) := hr.1
  have hz := (szN_le P P.2.1).1
  intro d
  induction d with
  | zero =>
    intro i f hi hf
    obtain ⟨f, rfl⟩ : ∃ f1, f = f1 + 1 := ⟨f - 1, by omega⟩
    have e : i = rwN P W := by omega
    subst e
    have e1 : fr1 P W s (rwN P W) = znF P W s := by unfold fr1; rw [if_neg (by omega)]
    have e2 : fr2 P W s (rwN P W) = znR P W s := by unfold fr2; exact Nat.min_eq_right (by omega)
    rw [LGX11_far_11, e17, if_pos ((zN_le (by omega) (by omega)).mpr (Nat.le_refl _)), e1, e2]
  | succ d ih =>
    intro i f hi hf
    obtain ⟨f, rfl⟩ : ∃ f1, f = f1 + 1 := ⟨f - 1, by omega⟩
    have hir : i < rwN P W := by omega
    obtain ⟨k, c1, c2, c3⟩ := layA_in P W P.2.1 i hir
    have r1 := (layA_row P W c1 c2 c3).1
    obtain ⟨a1, a2, a3, a4, a5, a6⟩ := hr.2 i hir
    obtain ⟨d1, d2, d3⟩ := hd.2.1 k c1
    have hsk := sp3 i k c1 c2 c3
    have hzk : szO P k ≤ 24 := by have := szN_le P (k + 1); unfold szO; omega
    have es : (zI ((szO P k : Nat) : Int) = zI s) ↔ szO P k = s := zN_eq (by omega) (by omega)
    rw [LGX11_far_11, e17, if_neg (fun x => by have := (zN_le (by omega) (by omega)).mp x; omega), ix_l _ _ (by omega) (by omega), bnd, a1, r1, ix_l _ _ (by omega) (by omega), bnd, d1]
    by_cases q : szO P k = s
    · obtain ⟨q1, q2⟩ := hsk.mp q
      have e1 : fr1 P W s (i + 1) = znF P W s := by unfold fr1; rw [if_neg (by omega)]
      have e2 : fr2 P W s i = i - znF P W s := by unfold fr2; omega
      have e3 : fr2 P W s (i + 1) = fr2 P W s i + 1 := by rw [e2]; unfold fr2; omega
      have e4 : znF P W s + fr2 P W s i = i := by omega
      have w1 : mxS (wdV P W) (znF P W s) (fr2 P W s i) ≤ 60 := mxS_le _ (fun j hj => wd_le ho hW hW2 (by omega))
      have w2 : wdV P W i ≤ 60 := wd_le ho hW hW2 hir
      have eF : (if ¬ zI (fr1 P W s i) = -1 then some (zI (fr1 P W s i)) else some (zI i)) = some (zI (znF P W s)) := by
        unfold fr1
        by_cases y : i ≤ znF P W s
        · rw [if_pos y, if_neg (fun x => x rfl), show i = znF P W s by omega]
        · have ne : ¬ zI ((znF P W s : Nat) : Int) = -1 := fun x => by have := (zeq (b := -1) (by omega) (by omega) (by omega) (by omega)).mp x; omega
          rw [if_neg y, if_pos ne]
      have eW : mA N 6 i + mA N 7 i = zI (wdV P W i) := by rw [a3, a4, zN_add]; rfl
      have eM : (if (mA N 6 i + mA N 7 i) ≤ zI (mxS (wdV P W) (znF P W s) (fr2 P W s i)) then some (zI (mxS (wdV P W) (znF P W s) (fr2 P W s i))) else some (mA N 6 i + mA N 7 i)) = some (zI (mxS (wdV P W) (znF P W s) (fr2 P W s (i + 1)))) := by
        rw [eW, e3, mxS, e4]
        by_cases y : wdV P W i ≤ mxS (wdV P W) (znF P W s) (fr2 P W s i)
        · rw [if_pos ((zN_le (by omega) (by omega)).mpr y), Nat.max_eq_left y]
        · rw [if_neg (fun x => y ((zN_le (by omega) (by omega)).mp x)), Nat.max_eq_right (by omega)]
      rw [if_neg (fun x => x (es.mpr q)), eF, bnd, bnd, bnd, eM, bnd, bnd, zN_add1, zN_add1]
      have := ih (i + 1) f (by omega) (by omega)
      rw [e1] at this
      rw [← e3]
      exact this
    · have nr : ¬ (znF P W s ≤ i ∧ i < znF P W s + znR P W s) := fun x => q (hsk.mpr x)
      have e1 : fr1 P W s (i + 1) = fr1 P W s i := by
        unfold fr1
        by_cases y : i ≤ znF P W s
        · rw [if_pos y, if_pos (by omega)]
        · rw [if_neg y, if_neg (by omega)]
      have e2 : fr2 P W s (i + 1) = fr2 P W s i := by unfold fr2; omega
      rw [if_pos (fun x => q (es.mp x)), bnd, zN_add1]
      have := ih (i + 1) f (by omega) (by omega)
      rw [e1, e2] at this
      exact this
theorem g_far96 {N : MS} {P : PoT} {W : Nat} (ho : okP P) (hW : 12 ≤ W) (hW2 : W ≤ 60) (hr : RM N (layA P W P.2.1)) {s sh m : Nat} (hs : s < szN P P.2.1) (hsh : sh < 4) (hm : m ≤ 60) : ∀ (d i f : Nat), i + d = znR P W s → d < f → LGX11_far_96 f N (zI sh) (zI (znF P W s)) (zI (znR P W s)) (zI m) (zI (dsS (wdV P W) (znF P W s) sh m (znR P W s) i)) (zI i) = some (zI (dsS (wdV P W) (znF P W s) sh m (znR P W s) (znR P W s))) := by
  have h480 := rwN_le ho hW hW2
  obtain ⟨sp1, sp2, sp3⟩ := stz_sp (W := W) hs
  intro d
  induction d with
  | zero =>
    intro i f hi hf
    obtain ⟨f, rfl⟩ : ∃ f1, f = f1 + 1 := ⟨f - 1, by omega⟩
    have e : i = znR P W s := by omega
    subst e
    rw [LGX11_far_96, if_pos ((zN_le (by omega) (by omega)).mpr (Nat.le_refl _))]
  | succ d ih =>
    intro i f hi hf
    obtain ⟨f, rfl⟩ : ∃ f1, f = f1 + 1 := ⟨f - 1, by omega⟩
    have hir : znF P W s + i < rwN P W := by omega
    obtain ⟨a1, a2, a3, a4, a5, a6⟩ := hr.2 (znF P W s + i) hir
    have eW : mA N 6 (znF P W s + i) + mA N 7 (znF P W s + i) = zI (wdV P W (znF P W s + i)) := by rw [a3, a4, zN_add]; rfl
    have h2 : wdV P W (znF P W s + i) ≤ 60 := wd_le ho hW hW2 hir
    have h3 := (aim_le (sh := sh) hm (show i < znR P W s by omega) (by omega)).1
    rw [LGX11_far_96, if_neg (fun x => by have := (zN_le (by omega) (by omega)).mp x; omega), zN_add, ix_l _ _ (by omega) (by omega), bnd, bnd, g_aim N hsh hm (by omega) (by omega), bnd, eW, g_abs (by omega) (by omega), bnd, zN_add, zN_add1]
    exact ih (i + 1) f (by omega) (by omega)
theorem g_far {N : MS} {P : PoT} {W : Nat} (ho : okP P) (hW : 12 ≤ W) (hW2 : W ≤ 60) (hr : RM N (layA P W P.2.1)) (hd : DM N P W P.2.1) {s sh : Nat} (hs : s < szN P P.2.1) (hsh : sh < 4) : g_X11_far N (zI s) (zI sh) = some (zI (dsV P W s sh)) := by
  have h480 := rwN_le ho hW hW2
  obtain ⟨sp1, sp2, sp3⟩ := stz_sp (W := W) hs
  have hm : mxS (wdV P W) (znF P W s) (znR P W s) ≤ 60 := mxS_le _ (fun j hj => wd_le ho hW hW2 (by omega))
  have e1 := g_far11 ho hW hW2 hr hd hs (zI sh) (rwN P W) 0 FU (by omega) (by simp only [FU]; omega)
  have z1 : fr1 P W s 0 = -1 := by unfold fr1; rw [if_pos (Nat.zero_le _)]
  have z2 : fr2 P W s 0 = 0 := by unfold fr2; omega
  rw [z1, z2] at e1
  have e1' : LGX11_far_11 FU N (zI s) (zI sh) (-1) 0 0 0 = _ := e1
  have e2 := g_far96 ho hW hW2 hr hs hsh hm (znR P W s) 0 FU (by omega) (by simp only [FU]; omega)
  have e2' : LGX11_far_96 FU N (zI sh) (zI (znF P W s)) (zI (znR P W s)) (zI (mxS (wdV P W) (znF P W s) (znR P W s))) 0 0 = _ := e2
  rw [g_X11_far, e1', bnd, e2', bnd]; rfl
theorem g_nearest {N : MS} {P : PoT} {W : Nat} (ho : okP P) (hW : 12 ≤ W) (hW2 : W ≤ 60) (hr : RM N (layA P W P.2.1)) (hd : DM N P W P.2.1) {s : Nat} (hs : s < szN P P.2.1) : g_X11_nearest N (zI s) = some (zI (neV (dsV P W s))) := by
  have D := fun sh h => g_far (sh := sh) ho hW hW2 hr hd hs h
  have B := fun sh => dsV_le (sh := sh) ho hW hW2 hs
  have step : ∀ (f a b : Nat), a < 4 → b < 4 → LGX11_nearest_4 (f + 1) N (zI s) (zI a) (zI b) = LGX11_nearest_4 f N (zI s) (zI (nbV (dsV P W s) a b)) (zI ((b + 1 : Nat) : Int)) := by
    intro f a b ha hb
    have h4 : ¬ (4 : Int32) ≤ zI (b : Int) := fun y => by have := (zN_le (a := 4) (by omega) (by omega)).mp y; omega
    rw [LGX11_nearest_4, if_neg h4, D b hb, bnd, D a ha, bnd]
    have Ba := B a
    have Bb := B b
    unfold nbV
    by_cases y : dsV P W s a ≤ dsV P W s b
    · rw [if_pos ((zN_le (by omega) (by omega)).mpr y), bnd, if_pos y, zN_add1]
    · rw [if_neg (fun w => y ((zN_le (by omega) (by omega)).mp w)), bnd, if_neg y, zN_add1]
  have a1 := step (FU - 1) 0 1 (by decide) (by decide)
  have a2 := step (FU - 2) (nbV (dsV P W s) 0 1) 2 (nbV_lt (by decide) (by decide)) (by decide)
  have a3 := step (FU - 3) (nbV (dsV P W s) (nbV (dsV P W s) 0 1) 2) 3 (nbV_lt (nbV_lt (by decide) (by decide)) (by decide)) (by decide)
  have a4 : LGX11_nearest_4 (FU - 3) N (zI s) (zI (neV (dsV P W s))) (zI ((3 + 1 : Nat) : Int)) = some (zI (neV (dsV P W s))) := by
    rw [show FU - 3 = (FU - 4) + 1 from rfl, LGX11_nearest_4, if_pos (by decide)]
  have a1' : LGX11_nearest_4 FU N (zI s) 0 1 = some (zI (neV (dsV P W s))) := a1.trans (a2.trans (a3.trans a4))
  rw [g_X11_nearest, a1', bnd]
theorem g_inS {M : MS} (z : Int) (m : Nat) (h1 : -2147483648 ≤ z) (h2 : z ≤ 2147483647) (h3 : m ≤ 100000) : g_X11_in M (zI z) 0 (zI (m : Int) - 1) = some (if 0 ≤ z ∧ z < m then 1 else 0) := by
  have em : zI (m : Int) - 1 = zI ((m : Int) - 1) := zI_sub m 1
  rw [em, g_in]
  have ee : (0 ≤ zI z ∧ zI z ≤ zI ((m : Int) - 1)) ↔ (0 ≤ z ∧ z < m) := by
    rw [show (0 : Int32) = zI 0 from rfl, zle (by omega) (by omega) (by omega) (by omega), zle (by omega) (by omega) (by omega) (by omega)]; omega
  by_cases y : 0 ≤ z ∧ z < m
  · rw [if_pos (ee.mpr y), if_pos y]
  · rw [if_neg (fun x => y (ee.mp x)), if_neg y]
theorem g_shapeQ {M : MS} {P : PoT} {hs : Nat → PoT} {c : Nat} {T : Nat → Int32} {n : Nat} (h : MI M P hs c T n) (z : Int) (z1 : -2147483648 ≤ z) (z2 : z ≤ 2147483647) :
    ∃ N, g_X11_shape M (zI z) = some (if 0 ≤ z ∧ z < szN P P.2.1 then zI (neV (dsV P (P.2.2 0) z.toNat)) else -2, N) ∧ MI N P hs c T n := by
  have ho := h.2.1
  obtain ⟨s1, s2, s3, s4, s5, s6, s7⟩ := ho.2.2
  have h24 := ho.1
  have hz := (szN_le P P.2.1).1
  rw [g_X11_shape, g_stanzas h.1 ho, bnd, g_inS z _ z1 z2 (by omega), bnd]
  by_cases q : 0 ≤ z ∧ z < szN P P.2.1
  · obtain ⟨s, rfl⟩ : ∃ m : Nat, z = m := ⟨z.toNat, by omega⟩
    obtain ⟨N, d1, d2, d3, -⟩ := g_drawn h
    have eR : ∀ A B : Int32, (if 0 ≤ (s : Int) ∧ (s : Int) < szN P P.2.1 then A else B) = A := fun A B => if_pos q
    rw [if_pos q, if_pos (by decide), d1, bnd, g_nearest ho s1 s2 d2.2.2.1.1 d2.2.2.1 (by omega), bnd, eR]
    exact ⟨_, rfl, d3⟩
  · rw [if_neg q, if_neg (by decide), if_neg q]; exact ⟨_, rfl, h⟩
theorem g_distQ {M : MS} {P : PoT} {hs : Nat → PoT} {c : Nat} {T : Nat → Int32} {n : Nat} (h : MI M P hs c T n) (z : Int) (z1 : -2147483648 ≤ z) (z2 : z ≤ 2147483647) :
    ∃ N, g_X11_distance M (zI z) = some (if 0 ≤ z ∧ z < szN P P.2.1 then (if SFl T n = -1 then zI (dsV P (P.2.2 0) z.toNat (Shp T n).toNat) else zI (-2000 - SFl T n)) else -2, N) ∧ MI N P hs c T n := by
  have ho := h.2.1
  obtain ⟨s1, s2, s3, s4, s5, s6, s7⟩ := ho.2.2
  have h24 := ho.1
  have hz := (szN_le P P.2.1).1
  have hb := SFl_bd T n h.2.2.2.1
  rw [g_X11_distance, g_stanzas h.1 ho, bnd, g_inS z _ z1 z2 (by omega), bnd]
  by_cases q : 0 ≤ z ∧ z < szN P P.2.1
  · obtain ⟨s, rfl⟩ : ∃ m : Nat, z = m := ⟨z.toNat, by omega⟩
    have eR : ∀ A B : Int32, (if 0 ≤ (s : Int) ∧ (s : Int) < szN P P.2.1 then A else B) = A := fun A B => if_pos q
    obtain ⟨N1, g1, g2, g3, g4⟩ := g_shapeR h
    have em : (zI (SFl T n) = -1) ↔ SFl T n = -1 := zeq (b := -1) (by omega) (by omega) (by omega) (by omega)
    rw [if_pos q, if_pos (by decide), g1, bnd, g3, eR]
    by_cases f : SFl T n = -1
    · obtain ⟨sh, h1, h2⟩ := Shp_rng T n f
      obtain ⟨N, d1, d2, d3, d4⟩ := g_drawn g2
      have e8 : mF N 8 = zI sh := by rw [d4.2.1 8 (by omega) (by omega), g4, h2]
      rw [if_pos (em.mpr f), d1, bnd, e8, g_far ho s1 s2 d2.2.2.1.1 d2.2.2.1 (by omega) h1, bnd, if_pos f, h2]
      exact ⟨_, rfl, d3⟩
    · rw [if_neg (fun y => f (em.mp y)), if_neg f, show (-2000 : Int32) = zI (-2000) from rfl, zI_sub]
      exact ⟨_, rfl, g2⟩
  · rw [if_neg q, if_neg (by decide), if_neg q]; exact ⟨_, rfl, h⟩

theorem wd_le {P : PoT} (ho : okP P) {W i : Nat} (hW : 12 ≤ W) (hW2 : W ≤ 60) (hi : i < rwN P W) : wdV P W i ≤ 60 := by
  have := (lay_wd ho hW hW2 P.2.1 (Nat.le_refl _) i hi).1
  have e : wdV P W i = rCo ((layA P W P.2.1).2 i) + rLe ((layA P W P.2.1).2 i) := rfl
  omega
theorem nz_z {n : Nat} (h : 0 < n) (hn : n ≤ 100000) : nz (zI (n : Int)) = some (zI n) := by
  have : ¬ zI (n : Int) = 0 := fun x => by have := (zN_eq (b := 0) (by omega) (by omega)).mp x; omega
  rw [nz, if_neg this]
theorem zN_2m (m : Nat) : (2 : Int32) * zI m = zI ((2 * m : Nat) : Int) := zN_mul 2 m
theorem c_aim (σ : St) {sh m i n : Nat} (hsh : sh < 4) (hm : m ≤ 60) (hi : i < n) (hn : n ≤ 480) : f_X10_aim σ (zI sh) (zI m) (zI i) (zI n) = some (zI (aimV sh m i n)) := by
  obtain ⟨h1, h2, h3, h4⟩ := aim_le (sh := sh) hm hi hn
  have l1 : (1 : Int32) ≤ zI (n : Int) := (zN_le (a := 1) (by omega) (by omega)).mpr (by omega)
  rw [f_X10_aim, if_pos l1]
  rcases (show sh = 0 ∨ sh = 1 ∨ sh = 2 ∨ sh = 3 by omega) with rfl | rfl | rfl | rfl
  · rw [if_neg (by decide), if_neg (by decide), if_neg (by decide)]; rfl
  · rw [if_pos (by decide), nz_z (by omega) (by omega), bnd, zN_add1, zN_mul, zN_div (by omega) (by omega)]; rfl
  · rw [if_neg (by decide), if_pos (by decide), zN_add1, nz_z (by omega) (by omega), bnd, zN_add1, zN_sub (by omega), jmin_z _ _ (by omega) (by omega), zN_2m, zN_mul, zN_div (by omega) (by omega), jmin_z _ _ (by omega) (Nat.le_trans (Nat.div_le_self _ _) (by omega))]; rfl
  · rw [if_neg (by decide), if_neg (by decide), if_pos (by decide), nz_z (by omega) (by omega), bnd, zN_add1, zN_sub (by omega), jmax_z _ _ (by omega) (by omega), zN_mul, zN_div (by omega) (by omega)]; rfl
theorem g_aim (M : MS) {sh m i n : Nat} (hsh : sh < 4) (hm : m ≤ 60) (hi : i < n) (hn : n ≤ 480) : g_X11_aim M (zI sh) (zI m) (zI n) (zI i) = some (zI (aimV sh m i n)) := by
  obtain ⟨h1, h2, h3, h4⟩ := aim_le (sh := sh) hm hi hn
  rw [g_X11_aim]
  rcases (show sh = 0 ∨ sh = 1 ∨ sh = 2 ∨ sh = 3 by omega) with rfl | rfl | rfl | rfl
  · rw [if_pos (by decide)]; rfl
  · rw [if_neg (by decide), if_pos (by decide), nz_z (by omega) (by omega), bnd, zN_add1, zN_mul, zN_div (by omega) (by omega)]; rfl
  · rw [if_neg (by decide), if_neg (by decide), if_pos (by decide), zN_add1, zN_sub (by omega), jlesser _ _ _ (by omega) (by omega), bnd, zN_add1, nz_z (by omega) (by omega), bnd, zN_2m, zN_mul, zN_div (by omega) (by omega), jlesser _ _ _ (by omega) (Nat.le_trans (Nat.div_le_self _ _) (by omega)), bnd]; rfl
  · rw [if_neg (by decide), if_neg (by decide), if_neg (by decide), zN_add1, zN_sub (by omega)]
    by_cases q : i + 1 ≤ n - i
    · rw [if_pos ((zN_le (by omega) (by omega)).mpr q), nz_z (by omega) (by omega), bnd, zN_mul]
      have e : max (i + 1) (n - i) = n - i := Nat.max_eq_right q
      rw [e] at h4
      rw [zN_div (by omega) (by omega)]
      unfold aimV
      rw [if_neg (by decide), if_neg (by decide), if_neg (by decide), e]
    · rw [if_neg (fun x => q ((zN_le (by omega) (by omega)).mp x)), nz_z (by omega) (by omega), bnd, zN_mul]
      have e : max (i + 1) (n - i) = i + 1 := Nat.max_eq_left (by omega)
      rw [zN_div (by omega) (by omega)]
      unfold aimV
      rw [if_neg (by decide), if_neg (by decide), if_neg (by decide), e]
theorem c_abs {a b : Nat} (ha : a ≤ 1000000) (hb : b ≤ 1000000) : jabs (zI a - zI b) = zI (abD a b) := by
  rw [jabs, zI_sub]
  have e : ((0 : Int32) ≤ zI ((a : Int) - b)) ↔ (0 : Int) ≤ (a : Int) - b := zle (a := 0) (by omega) (by omega) (by omega) (by omega)
  unfold abD
  by_cases q : b ≤ a
  · rw [if_pos (e.mpr (by omega)), if_pos q]; congr 1; omega
  · rw [if_neg (fun x => by have := e.mp x; omega), if_neg q, show (0 : Int32) = zI 0 from rfl, zI_sub]; congr 1; omega
theorem g_abs {a b : Nat} (ha : a ≤ 1000000) (hb : b ≤ 1000000) : (if 0 ≤ zI (a : Int) - zI b then some (zI (a : Int) - zI b) else some (-(zI (a : Int) - zI b))) = some (zI (abD a b)) := by
  rw [zI_sub]
  have e : ((0 : Int32) ≤ zI ((a : Int) - b)) ↔ (0 : Int) ≤ (a : Int) - b := zle (a := 0) (by omega) (by omega) (by omega) (by omega)
  unfold abD
  by_cases q : b ≤ a
  · rw [if_pos (e.mpr (by omega)), if_pos q]; congr 2; omega
  · rw [if_neg (fun x => by have := e.mp x; omega), if_neg q, zI_neg]; congr 2; omega
theorem c_wid {C S : Nat} {σ : St} {t : Nat} {P : PoT} {W H : Nat} (lo : LO (fun _ => True) C S σ t P W H) {i : Nat} (hi : i < rwN P W) : f_X1_widthOf σ t (zI i) = some (zI (wdV P W i)) := c_widthOf lo.1.1 lo.1.2.1 hi
theorem c_gw1 {C S : Nat} {σ : St} {t : Nat} {P : PoT} {W H : Nat} (ho : okP P) (hW : 12 ≤ W) (hW2 : W ≤ 60) (lo : LO (fun _ => True) C S σ t P W H) {f0 m : Nat} (hf : f0 + m ≤ rwN P W) : ∀ (d i f : Nat), i + d = m → d < f → LX1_greatestWidth_5 f σ t (zI f0) (zI m) (zI (mxS (wdV P W) f0 i)) (zI ((f0 + i : Nat) : Int)) = some (zI (mxS (wdV P W) f0 m)) := by
  have h480 := rwN_le ho hW hW2
  intro d
  induction d with
  | zero =>
    intro i f hi hf'
    obtain ⟨f, rfl⟩ : ∃ f1, f = f1 + 1 := ⟨f - 1, by omega⟩
    have e : i = m := by omega
    subst e
    rw [LX1_greatestWidth_5, zN_add, if_pos ((zN_le (by omega) (by omega)).mpr (Nat.le_refl _))]
  | succ d ih =>
    intro i f hi hf'
    obtain ⟨f, rfl⟩ : ∃ f1, f = f1 + 1 := ⟨f - 1, by omega⟩
    have h1 : mxS (wdV P W) f0 i ≤ 60 := mxS_le i (fun j hj => wd_le ho hW hW2 (by omega))
    have h2 : wdV P W (f0 + i) ≤ 60 := wd_le ho hW hW2 (by omega)
    rw [LX1_greatestWidth_5, zN_add, if_neg (fun x => by have := (zN_le (by omega) (by omega)).mp x; omega), c_wid lo (by omega), bnd, jmax_z _ _ (by omega) (by omega), zN_add1]
    exact ih (i + 1) f (by omega) (by omega)
theorem c_gw {C S : Nat} {σ : St} {t : Nat} {P : PoT} {W H : Nat} (ho : okP P) (hW : 12 ≤ W) (hW2 : W ≤ 60) (lo : LO (fun _ => True) C S σ t P W H) {f0 m : Nat} (hf : f0 + m ≤ rwN P W) : f_X1_greatestWidth σ t (zI f0) (zI m) = some (zI (mxS (wdV P W) f0 m)) := by
  have h480 := rwN_le ho hW hW2
  have e := c_gw1 ho hW hW2 lo hf m 0 FU (by omega) (by simp only [FU]; omega)
  have e' : LX1_greatestWidth_5 FU σ t (zI f0) (zI m) 0 (zI f0) = _ := e
  rw [f_X1_greatestWidth, e', bnd]
theorem c_stzO {C S : Nat} {σ : St} {t : Nat} {P : PoT} {W H : Nat} (lo : LO (fun _ => True) C S σ t P W H) {s : Nat} (hs : s < szN P P.2.1) (h24 : P.2.1 ≤ 24) : ∃ z, f_X1_stanzaAt σ t (zI s) = some (some z) ∧ hpK σ z = 7 ∧ hpI σ 225 z = zI (znF P W s) ∧ hpI σ 226 z = zI (znR P W s) := by
  obtain ⟨⟨li, ro, s39, sl, zl⟩, -⟩ := lo
  have hz := (szN_le P P.2.1).1
  obtain ⟨z, z1, z2, z3, z4⟩ := zl.2 s hs
  exact ⟨z, by rw [c_stanzaAtN li zl.1 (by omega) hs, z1], (Z_k li (by omega) z1).1, z3, z4⟩
theorem c_df19 {C S : Nat} {σ : St} {t : Nat} {P : PoT} {W H : Nat} (ho : okP P) (hW : 12 ≤ W) (hW2 : W ≤ 60) (lo : LO (fun _ => True) C S σ t P W H) {s z sh m : Nat} (hs : s < szN P P.2.1) (hsh : sh < 4) (hm : m ≤ 60) (zk : hpK σ z = 7) (z5 : hpI σ 225 z = zI (znF P W s)) (z6 : hpI σ 226 z = zI (znR P W s)) : ∀ (d i f : Nat), i + d = znR P W s → d < f → LX1_distanceFrom_19 f σ t (zI sh) (some z) (zI m) (zI (dsS (wdV P W) (znF P W s) sh m (znR P W s) i)) (zI i) = some (zI (dsS (wdV P W) (znF P W s) sh m (znR P W s) (znR P W s))) := by
  have h480 := rwN_le ho hW hW2
  obtain ⟨sp1, sp2, sp3⟩ := stz_sp (W := W) hs
  intro d
  induction d with
  | zero =>
    intro i f hi hf
    obtain ⟨f, rfl⟩ : ∃ f1, f = f1 + 1 := ⟨f - 1, by omega⟩
    have e : i = znR P W s := by omega
    subst e
    rw [LX1_distanceFrom_19, dn_eq zk, bnd, z6, if_pos ((zN_le (by omega) (by omega)).mpr (Nat.le_refl _))]
  | succ d ih =>
    intro i f hi hf
    obtain ⟨f, rfl⟩ : ∃ f1, f = f1 + 1 := ⟨f - 1, by omega⟩
    have h2 : wdV P W (znF P W s + i) ≤ 60 := wd_le ho hW hW2 (by omega)
    have h3 := (aim_le (sh := sh) hm (show i < znR P W s by omega) (by omega)).1
    rw [LX1_distanceFrom_19, dn_eq zk, bnd, z6, if_neg (fun x => by have := (zN_le (by omega) (by omega)).mp x; omega), z5, zN_add, c_wid lo (by omega), bnd, c_aim σ hsh hm (by omega) (by omega), bnd, c_abs (by omega) (by omega), zN_add, zN_add1]
    exact ih (i + 1) f (by omega) (by omega)
theorem c_distF {C S : Nat} {σ : St} {t : Nat} {P : PoT} {W H : Nat} (ho : okP P) (hW : 12 ≤ W) (hW2 : W ≤ 60) (lo : LO (fun _ => True) C S σ t P W H) {s z sh : Nat} (hs : s < szN P P.2.1) (hsh : sh < 4) (zk : hpK σ z = 7) (z5 : hpI σ 225 z = zI (znF P W s)) (z6 : hpI σ 226 z = zI (znR P W s)) : f_X1_distanceFrom σ t (zI sh) (some z) = some (zI (dsV P W s sh)) := by
  have h480 := rwN_le ho hW hW2
  obtain ⟨sp1, sp2, sp3⟩ := stz_sp (W := W) hs
  have hm : mxS (wdV P W) (znF P W s) (znR P W s) ≤ 60 := mxS_le _ (fun j hj => wd_le ho hW hW2 (by omega))
  have e := c_df19 ho hW hW2 lo hs hsh hm zk z5 z6 (znR P W s) 0 FU (by omega) (by simp only [FU]; omega)
  have e' : LX1_distanceFrom_19 FU σ t (zI sh) (some z) (zI (mxS (wdV P W) (znF P W s) (znR P W s))) 0 0 = _ := e
  rw [f_X1_distanceFrom, dn_eq zk, bnd, z5, z6, c_gw ho hW hW2 lo sp2, bnd, e', bnd]; rfl
theorem dsV_le {P : PoT} (ho : okP P) {W s sh : Nat} (hW : 12 ≤ W) (hW2 : W ≤ 60) (hs : s < szN P P.2.1) : dsV P W s sh ≤ 30000000 := by
  have h480 := rwN_le ho hW hW2
  obtain ⟨sp1, sp2, sp3⟩ := stz_sp (W := W) hs
  have hm : mxS (wdV P W) (znF P W s) (znR P W s) ≤ 60 := mxS_le _ (fun j hj => wd_le ho hW hW2 (by omega))
  have h := dsS_le (sh := sh) (n := znR P W s) (w := wdV P W) (f0 := znF P W s) hm (by omega) (fun i hi => wd_le ho hW hW2 (by omega)) (znR P W s) (Nat.le_refl _)
  unfold dsV; omega
/-- the nearest shape -/
def nbV (D : Nat → Nat) (a b : Nat) : Nat := if D a ≤ D b then a else b
def neV (D : Nat → Nat) : Nat := nbV D (nbV D (nbV D 0 1) 2) 3
theorem nbV_lt {D : Nat → Nat} {a b m : Nat} (ha : a < m) (hb : b < m) : nbV D a b < m := by unfold nbV; split <;> omega
theorem neV_lt (D : Nat → Nat) : neV D < 4 := nbV_lt (nbV_lt (nbV_lt (by decide) (by decide)) (by decide)) (by decide)
theorem k_shape {x : Nat} {σ : St} {P : PoT} {hs : Nat → PoT} {c : Nat} {T : Nat → Int32} {n : Nat} (K : KQ x σ P hs c T n) (z : Int) (z1 : -2147483648 ≤ z) (z2 : z ≤ 2147483647) :
    f_X10_shape σ x (zI z) = some (if 0 ≤ z ∧ z < szN P P.2.1 then zI (neV (dsV P (P.2.2 0) z.toNat)) else -2) := by
  obtain ⟨C, S, lo⟩ := KQ_LO K
  obtain ⟨⟨k, kL, ho⟩, R⟩ := id K
  obtain ⟨k1, k2, k3, k4, k5, k6, k7, k8⟩ := id k
  obtain ⟨s1, s2, s3, s4, s5, s6, s7⟩ := ho.2.2
  have h24 := ho.1
  have hz := (szN_le P P.2.1).1
  rw [f_X10_shape, k1.2.2.2.2.1, dn_eq k5.2.1, bnd]
  by_cases q : 0 ≤ z ∧ z < szN P P.2.1
  · obtain ⟨s, rfl⟩ : ∃ m : Nat, z = m := ⟨z.toNat, by omega⟩
    have hs' : s < szN P P.2.1 := by omega
    obtain ⟨za, g1, g2, g3, g4⟩ := c_stzO lo hs' h24
    have n1 : ¬ (some za : Option Nat) = none := by simp
    have D := fun sh h => c_distF (sh := sh) ho s1 s2 lo hs' h g2 g3 g4
    have B := fun sh => dsV_le (sh := sh) ho s1 s2 hs'
    have eR : ∀ A B : Int32, (if 0 ≤ (s : Int) ∧ (s : Int) < szN P P.2.1 then A else B) = A := fun A B => if_pos q
    have D0 : f_X1_distanceFrom σ (x + 32) 0 (some za) = some (zI (dsV P (P.2.2 0) s 0)) := D 0 (by decide)
    have step : ∀ (f a b : Nat), a < 4 → b < 4 → LX10_shape_32 (f + 1) σ x (some za) (zI a) (zI (dsV P (P.2.2 0) s a)) (zI b) = LX10_shape_32 f σ x (some za) (zI (nbV (dsV P (P.2.2 0) s) a b)) (zI (dsV P (P.2.2 0) s (nbV (dsV P (P.2.2 0) s) a b))) (zI ((b + 1 : Nat) : Int)) := by
      intro f a b ha hb
      have h4 : ¬ (4 : Int32) ≤ zI (b : Int) := fun y => by have := (zN_le (a := 4) (by omega) (by omega)).mp y; omega
      rw [LX10_shape_32, if_neg h4, k1.2.2.2.2.1, dn_eq k5.2.1, bnd, D b hb, bnd]
      have Ba := B a
      have Bb := B b
      unfold nbV
      by_cases y : dsV P (P.2.2 0) s a ≤ dsV P (P.2.2 0) s b
      · rw [if_pos ((zN_le (by omega) (by omega)).mpr y), bnd, if_pos y, zN_add1]
      · rw [if_neg (fun w => y ((zN_le (by omega) (by omega)).mp w)), bnd, if_neg y, zN_add1]
    have a1 := step (FU - 1) 0 1 (by decide) (by decide)
    have a2 := step (FU - 2) (nbV (dsV P (P.2.2 0) s) 0 1) 2 (nbV_lt (by decide) (by decide)) (by decide)
    have a3 := step (FU - 3) (nbV (dsV P (P.2.2 0) s) (nbV (dsV P (P.2.2 0) s) 0 1) 2) 3 (nbV_lt (nbV_lt (by decide) (by decide)) (by decide)) (by decide)
    have a4 : LX10_shape_32 (FU - 3) σ x (some za) (zI (neV (dsV P (P.2.2 0) s))) (zI (dsV P (P.2.2 0) s (neV (dsV P (P.2.2 0) s)))) (zI ((3 + 1 : Nat) : Int)) = some (zI (neV (dsV P (P.2.2 0) s))) := by
      rw [show FU - 3 = (FU - 4) + 1 from rfl, LX10_shape_32, if_pos (by decide)]
    have a1' : LX10_shape_32 FU σ x (some za) 0 (zI (dsV P (P.2.2 0) s 0)) 1 = some (zI (neV (dsV P (P.2.2 0) s))) := a1.trans (a2.trans (a3.trans a4))
    rw [g1, bnd, if_neg n1, D0, bnd, a1', bnd, eR]; rfl
  · rw [c_stanzaAt lo.1.1 lo.1.2.2.2.2.1 (by omega) z z1 z2, bnd, if_neg q, if_pos rfl, if_neg q]
theorem Shp_rng (T : Nat → Int32) (n : Nat) (h : SFl T n = -1) : ∃ sh : Nat, sh < 4 ∧ Shp T n = sh := by
  unfold SFl at h
  have h0 : Shp T n ≠ -1 := fun x => by rw [if_pos x] at h; omega
  unfold Shp shP at h0 ⊢
  split
  · exact ⟨0, by decide, rfl⟩
  · split
    · exact ⟨1, by decide, rfl⟩
    · split
      · exact ⟨2, by decide, rfl⟩
      · split
        · exact ⟨3, by decide, rfl⟩
        · rename_i a b c d; rw [if_neg a, if_neg b, if_neg c, if_neg d] at h0; exact absurd rfl h0
theorem SFl_bd (T : Nat → Int32) (n : Nat) (hn : n ≤ 80) : -1 ≤ SFl T n ∧ SFl T n ≤ 100 := by
  have h1 := sc_spec bls T n n 0 (by omega) (Nat.zero_le _)
  have h2 := sc_spec isl T n n (p0P T n) (by omega) h1.2.1
  have h3 := sc_spec bls T n n (q0P T n) (by omega) h2.2.1
  have h1' : p0P T n ≤ n := h1.2.1
  have h3' : sc bls T n (q0P T n) ≤ n := h3.2.1
  unfold SFl
  split
  · omega
  · split <;> omega
theorem k_distance {x : Nat} {σ : St} {P : PoT} {hs : Nat → PoT} {c : Nat} {T : Nat → Int32} {n : Nat} (K : KQ x σ P hs c T n) (z : Int) (z1 : -2147483648 ≤ z) (z2 : z ≤ 2147483647) :
    f_X10_distance σ x (zI z) = some (if 0 ≤ z ∧ z < szN P P.2.1 then (if SFl T n = -1 then zI (dsV P (P.2.2 0) z.toNat (Shp T n).toNat) else zI (-2000 - SFl T n)) else -2) := by
  obtain ⟨C, S, lo⟩ := KQ_LO K
  obtain ⟨⟨k, kL, ho⟩, R⟩ := id K
  obtain ⟨k1, k2, k3, k4, k5, k6, k7, k8⟩ := id k
  obtain ⟨s1, s2, s3, s4, s5, s6, s7⟩ := ho.2.2
  have h24 := ho.1
  have hz := (szN_le P P.2.1).1
  have hb := SFl_bd T n k2.1
  rw [f_X10_distance, k1.2.2.2.2.1, dn_eq k5.2.1, bnd]
  by_cases q : 0 ≤ z ∧ z < szN P P.2.1
  · obtain ⟨s, rfl⟩ : ∃ m : Nat, z = m := ⟨z.toNat, by omega⟩
    obtain ⟨za, g1, g2, g3, g4⟩ := c_stzO lo (show s < szN P P.2.1 by omega) h24
    have n1 : ¬ (some za : Option Nat) = none := by simp
    have eR : ∀ A B : Int32, (if 0 ≤ (s : Int) ∧ (s : Int) < szN P P.2.1 then A else B) = A := fun A B => if_pos q
    have em : (zI (SFl T n) = -1) ↔ SFl T n = -1 := zeq (b := -1) (by omega) (by omega) (by omega) (by omega)
    rw [g1, bnd, if_neg n1, k1.2.1, dn_k k2.2.1, bnd, c_shapeFault k2, bnd, eR]
    by_cases f : SFl T n = -1
    · obtain ⟨sh, h1, h2⟩ := Shp_rng T n f
      rw [if_pos (em.mpr f), c_named k2, bnd, h2, c_distF ho s1 s2 lo (by omega) h1 g2 g3 g4, bnd, if_pos f]; rfl
    · rw [if_neg (fun y => f (em.mp y)), if_neg f, show (-2000 : Int32) = zI (-2000) from rfl, zI_sub]
  · rw [c_stanzaAt lo.1.1 lo.1.2.2.2.2.1 (by omega) z z1 z2, bnd, if_neg q, if_pos rfl, if_neg q]

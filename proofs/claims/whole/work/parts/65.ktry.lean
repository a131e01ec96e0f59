theorem c_rowB {Q : Nat → Prop} {C S : Nat} {σ : St} {t : Nat} {P : PoT} {W : Nat} (br : BR Q C S σ t P W) {i : Nat} (hi : i < rwN P W) : ∃ ro, f_X1_rowAt σ t (zI i) = some (some ro) ∧ hpK σ ro = 6 ∧ RW σ ro (rwA P W i) (shA P W P.2.1 i) := by
  obtain ⟨li, ro, s39, sl, zl⟩ := br
  have h480 := ro.2.1
  have hi' : i < (layA P W P.2.1).1 := hi
  obtain ⟨a, a1, a2⟩ := ro.2.2.1 i hi
  exact ⟨a, by rw [c_rowAtN li ro.1 h480 hi, a1], (RoL_k li (by omega) a1).1, a2⟩
theorem c_cutsB {Q : Nat → Prop} {C S : Nat} {σ : St} {t : Nat} {P : PoT} {W : Nat} (ho : okP P) (hW : 12 ≤ W) (hW2 : W ≤ 60) (br : BR Q C S σ t P W) : ∀ (d i f : Nat), i + d = rwN P W → d < f → LX1_cuts_4 f σ t (zI (smS (wiV P W) i)) (zI i) = some (zI (smS (wiV P W) (rwN P W))) := by
  have h480 := rwN_le ho hW hW2
  have e36 : hpI σ 36 t = zI (rwN P W) := br.2.1.1
  intro d
  induction d with
  | zero =>
    intro i f hi hf
    obtain ⟨f, rfl⟩ : ∃ f1, f = f1 + 1 := ⟨f - 1, by omega⟩
    have e : i = rwN P W := by omega
    subst e
    rw [LX1_cuts_4, e36, if_pos ((zN_le (by omega) (by omega)).mpr (Nat.le_refl _))]
  | succ d ih =>
    intro i f hi hf
    obtain ⟨f, rfl⟩ : ∃ f1, f = f1 + 1 := ⟨f - 1, by omega⟩
    have hir : i < rwN P W := by omega
    obtain ⟨ro, r1, r3, r4⟩ := c_rowB br hir
    have hwi : rWi (rwA P W i) ≤ 1 := (lay_in ho hW hW2 hir).2.2
    have n1 : ¬ (some ro : Option Nat) = none := by simp
    have e7 : hpI σ 200 ro = zI (rWi (rwA P W i)) := r4.2.2.2.2.2.2
    have ex : ∀ m : Nat, m ≤ 1 → (if zI (m : Int) = 0 then some (0 : Int32) else some 1) = some (zI m) := by
      intro m hm
      rcases (show m = 0 ∨ m = 1 by omega) with rfl | rfl <;> rfl
    rw [LX1_cuts_4, e36, if_neg (fun x => by have := (zN_le (by omega) (by omega)).mp x; omega), r1, bnd, if_neg n1, dn_eq r3, bnd, e7, ex _ hwi, bnd, c_oneIf σ hwi, bnd, zN_add, zN_add1]
    exact ih (i + 1) f (by omega) (by omega)
/-- the trial's layout is made; all else stands -/
theorem k_trial {x : Nat} {σ τ : St} {P : PoT} {hs : Nat → PoT} {c : Nat} {T : Nat → Int32} {n u v : Nat} (K : KL x σ P hs c T n) (R : Rm x σ u v) (g : FZ (okLy σ (x + 37)) (okLB (x + 37)) σ τ) (hl : LI (OwN σ (x + 37)) (hpC σ + pC σ (x + 37)) (hpS σ + pS σ (x + 37)) τ (x + 37)) : KL x τ P hs c T n ∧ Rm x τ u v ∧ GK x σ τ := by
  obtain ⟨k, kL, ho⟩ := id K
  obtain ⟨k1, k2, k3, k4, k5, k6, k7, k8⟩ := id k
  obtain ⟨w1, w2, w3, w4, w5, w6⟩ := ly_c (Or.inr rfl) k g
  obtain ⟨o1, o2, o3⟩ := l_otherJ g k5 (Or.inr (by omega))
  obtain ⟨r1, r2, r3, r4⟩ := hl.1
  exact ⟨⟨⟨w1, w2, w3, w4, o1, LJ_T (LJ_of hl), Dj_sym (l_dj g hl k5 (Dj_sym k7) (Or.inr (by omega))), w5⟩, l_other ho g k5 (Dj_sym k7) (Or.inr (by omega)) kL, ho⟩, ⟨by rw [o2]; have := R.1; omega, by rw [o3]; have := R.2; omega⟩, w6⟩
theorem k_num {x : Nat} {σ : St} {P : PoT} {hs : Nat → PoT} {c : Nat} {T : Nat → Int32} {n u v : Nat} (K : KL x σ P hs c T n) (R : Rm x σ u v) (hu : u ≤ NX) (hv : v ≤ SX) {w what : Nat} (hw : 12 ≤ w) (hw2 : w ≤ 60) (hwh : what < 3) :
    ∃ τ, f_X10_numberWithWidth σ x (zI w) (zI what) = some (zI (nbW P what w), τ) ∧ KL x τ P hs c T n ∧ Rm x τ u v ∧ GK x σ τ := by
  obtain ⟨k, kL, ho⟩ := id K
  obtain ⟨k1, k2, k3, k4, k5, k6, k7, k8⟩ := id k
  obtain ⟨s1, s2, s3, s4, s5, s6, s7⟩ := ho.2.2
  have h480 := rwN_le ho hw hw2
  obtain ⟨τ1, a1, a2, a3⟩ := l_break ho hw hw2 k3.1 k6 (by have := R.1; omega) (by have := R.2; omega)
  obtain ⟨m1, m2, m3⟩ := k_trial K R a3 a2.1
  have kk := m1.1.1
  rw [f_X10_numberWithWidth, k1.2.2.2.2.2.1, dn_eq k6.2.1, bnd, k1.2.2.1, a1, bnd]
  rcases (show what = 0 ∨ what = 1 ∨ what = 2 by omega) with rfl | rfl | rfl
  · obtain ⟨τ2, b1, b2, b3⟩ := l_pages ho hw hw2 s4 s3 a2
    obtain ⟨j1, j2, j3⟩ := k_trial K R (FZ_trans a3 b3) b2.1.1
    have st1 : f_X5_setting τ1 (x + 3) 1 = some (zI (P.2.2 1)) := c_setting (i := 1) m1.1.2.2.1.1 (by decide)
    have st4 : f_X5_setting τ1 (x + 3) 4 = some (zI (P.2.2 4)) := c_setting (i := 4) m1.1.2.2.1.1 (by decide)
    rw [if_pos (by decide), if_pos (by decide), dn_eq kk.1, bnd, kk.2.2.1, dn_eq m1.1.2.2.1.1.1.1, bnd, st1, bnd, st4, bnd, kk.2.2.2.2.2.1, dn_eq a2.1.2.2.1, bnd, b1, bnd, dn_eq j1.1.1.1, bnd, j1.1.1.2.2.2.2.2.1, dn_eq b2.1.1.2.2.1, bnd, b2.2.2.1.1]
    exact ⟨_, rfl, j1, j2, j3⟩
  · have ge : P.2.1 ≤ rwN P w := rwN_ge P w P.2.1
    have e36 : hpI τ1 36 (x + 37) = zI (rwN P w) := a2.2.1.1
    rw [if_neg (by decide), dn_eq kk.1, bnd, kk.2.2.2.2.2.1, dn_eq a2.1.2.2.1, bnd, f_X1_runOvers, bnd, e36, a2.2.2.1, zN_sub ge]
    exact ⟨_, rfl, m1, m2, m3⟩
  · have cu := c_cutsB ho hw hw2 a2 (rwN P w) 0 FU (by omega) (by simp only [FU]; omega)
    have cu' : LX1_cuts_4 FU τ1 (x + 37) 0 0 = _ := cu
    rw [if_pos (by decide), if_neg (by decide), dn_eq kk.1, bnd, kk.2.2.2.2.2.1, dn_eq a2.1.2.2.1, bnd, f_X1_cuts, cu', bnd, bnd]
    exact ⟨_, rfl, m1, m2, m3⟩
theorem bw_cstep {f : Nat → Nat} {w0 j : Nat} (hf : ∀ i, i < j + 1 → f (w0 + i) ≤ 100000) (hw : w0 + j ≤ 1000) : (if bwB (bwS f j w0) = (-1) then some (zI ((w0 + j : Nat) : Int), zI (f (w0 + j))) else if bwL (bwS f j w0) ≤ zI (f (w0 + j)) then some (bwB (bwS f j w0), bwL (bwS f j w0)) else some (zI ((w0 + j : Nat) : Int), zI (f (w0 + j)))) = some (bwB (bwS f (j + 1) w0), bwL (bwS f (j + 1) w0)) := by
  have h1 := hf j (by omega)
  rw [bwS]
  cases hx : bwS f j w0 with
  | none => rfl
  | some x =>
    obtain ⟨b, l⟩ := x
    obtain ⟨h2, h3, h4⟩ := bwS_in f w0 j b l hx
    have h5 : l ≤ 100000 := by rw [h4]; have := hf (b - w0) (by omega); rw [show w0 + (b - w0) = b by omega] at this; exact this
    have n1 : ¬ bwB (some (b, l)) = -1 := fun y => by
      have y' : zI (b : Int) = -1 := y
      have := (zeq (b := -1) (by omega) (by omega) (by omega) (by omega)).mp y'; omega
    rw [if_neg n1]
    show (if zI (l : Int) ≤ zI (f (w0 + j)) then some (zI (b : Int), zI (l : Int)) else some (zI ((w0 + j : Nat) : Int), zI (f (w0 + j)))) = some (bwB (if l ≤ f (w0 + j) then some (b, l) else some (w0 + j, f (w0 + j))), bwL (if l ≤ f (w0 + j) then some (b, l) else some (w0 + j, f (w0 + j))))
    by_cases y : l ≤ f (w0 + j)
    · rw [if_pos ((zN_le (by omega) (by omega)).mpr y), if_pos y]; rfl
    · rw [if_neg (fun z => y ((zN_le (by omega) (by omega)).mp z)), if_neg y]; rfl
theorem k_bw38 {x : Nat} {P : PoT} {hs : Nat → PoT} {c : Nat} {T : Nat → Int32} {n u v : Nat} (ho : okP P) (hu : u ≤ NX) (hv : v ≤ SX) {what : Nat} (hwh : what < 3) : ∀ (d j f : Nat) (σ : St), j + d = 49 → d < f → KL x σ P hs c T n → Rm x σ u v →
    ∃ τ b, LX10_bestWidth_38 f x (zI what) (bwB (bwS (nbW P what) j 12)) (bwL (bwS (nbW P what) j 12)) (zI ((12 + j : Nat) : Int)) σ = some (b, τ) ∧ b = bwB (bwS (nbW P what) 49 12) ∧ KL x τ P hs c T n ∧ Rm x τ u v ∧ GK x σ τ := by
  intro d
  induction d with
  | zero =>
    intro j f σ hj hf K R
    obtain ⟨f, rfl⟩ : ∃ f1, f = f1 + 1 := ⟨f - 1, by omega⟩
    have e : j = 49 := by omega
    subst e
    obtain ⟨-, y5, y6, y7, y8⟩ := K.1.2.2.2.2.2.2.2
    have el : f_X10_element σ (some (hpG σ 2)) 0 = some (zI (sHi 0)) := c_elS (i := 0) y6 y7 y8 (by decide)
    exact ⟨σ, _, by rw [LX10_bestWidth_38, el, bnd, if_pos (by decide)], rfl, K, R, GK_refl _ _⟩
  | succ d ih =>
    intro j f σ hj hf K R
    obtain ⟨f, rfl⟩ : ∃ f1, f = f1 + 1 := ⟨f - 1, by omega⟩
    obtain ⟨-, y5, y6, y7, y8⟩ := K.1.2.2.2.2.2.2.2
    have el : f_X10_element σ (some (hpG σ 2)) 0 = some (zI (sHi 0)) := c_elS (i := 0) y6 y7 y8 (by decide)
    have h60 : ¬ zI ((sHi 0 : Nat) : Int) < zI ((12 + j : Nat) : Int) := fun y => by
      have := (zN_lt (by decide) (by omega)).mp y
      have e0 : sHi 0 = 60 := rfl
      omega
    obtain ⟨τ1, a1, a2, a3, a4⟩ := k_num K R hu hv (w := 12 + j) (by omega) (by omega) hwh
    obtain ⟨τ, b, m1, m2, m3, m4, m5⟩ := ih (j + 1) f τ1 (by omega) (by omega) a2 a3
    have st := bw_cstep (f := nbW P what) (w0 := 12) (j := j) (fun i hi => nbW_le ho (by omega) (by omega)) (by omega)
    refine ⟨τ, b, ?_, m2, m3, m4, GK_trans a4 m5⟩
    rw [LX10_bestWidth_38, el, bnd, if_neg h60, dn_eq K.1.1.1, bnd, a1, bnd, st, bnd, zN_add1]
    exact m1
theorem k_best {x : Nat} {σ : St} {P : PoT} {hs : Nat → PoT} {c : Nat} {T : Nat → Int32} {n u v : Nat} (K : KL x σ P hs c T n) (R : Rm x σ u v) (hu : u ≤ NX) (hv : v ≤ SX) (w : Int) (w1 : -2147483648 ≤ w) (w2 : w ≤ 2147483647) :
    ∃ τ, f_X10_bestWidth σ x (zI w) = some (if 0 ≤ w ∧ w ≤ 2 then (if P.2.1 = 0 then -3 else bwB (bwS (nbW P w.toNat) 49 12)) else -2, τ) ∧ KL x τ P hs c T n ∧ Rm x τ u v ∧ GK x σ τ := by
  obtain ⟨k, kL, ho⟩ := id K
  obtain ⟨k1, k2, k3, k4, k5, k6, k7, k8⟩ := id k
  have h24 := ho.1
  have e0 : (zI w < 0) ↔ w < 0 := zlt (b := 0) w1 w2 (by omega) (by omega)
  have e1 : (zI w ≤ 2) ↔ w ≤ 2 := zle (b := 2) w1 w2 (by omega) (by omega)
  rw [f_X10_bestWidth]
  by_cases q : w < 0
  · rw [if_pos (e0.mpr q), if_neg (by omega)]; exact ⟨_, rfl, K, R, GK_refl _ _⟩
  · rw [if_neg (fun y => q (e0.mp y))]
    by_cases q2 : w ≤ 2
    · obtain ⟨j, rfl⟩ : ∃ m : Nat, w = m := ⟨w.toNat, by omega⟩
      have eR : ∀ A B : Int32, (if 0 ≤ (j : Int) ∧ (j : Int) ≤ 2 then A else B) = A := fun A B => if_pos ⟨by omega, q2⟩
      rw [if_pos (e1.mpr q2), k1.2.2.1, dn_eq k3.1.1.1, bnd, k3.1.2.1, eR]
      by_cases z : P.2.1 = 0
      · rw [if_neg (fun y => y (by rw [z]; rfl)), if_pos z]; exact ⟨_, rfl, K, R, GK_refl _ _⟩
      · have ne : ¬ zI (P.2.1 : Int) = 0 := fun y => z ((zN_eq (b := 0) (by omega) (by omega)).mp y)
        obtain ⟨⟨y1, y2, y3, y4⟩, -⟩ := id k8
        have el : f_X10_element σ (some (hpG σ 1)) 0 = some (zI (sLo 0)) := c_elS (i := 0) y2 y3 y4 (by decide)
        obtain ⟨τ, b, m1, m2, m3, m4, m5⟩ := k_bw38 ho hu hv (what := j) (by omega) 49 0 FU σ rfl (by simp only [FU]; omega) K R
        have m1' : LX10_bestWidth_38 FU x (zI j) (-1) 0 (zI (sLo 0)) σ = some (b, τ) := m1
        rw [if_pos ne, el, bnd, m1', bnd, if_neg z, m2]
        exact ⟨_, rfl, m3, m4, m5⟩
    · rw [if_neg (fun y => q2 (e1.mp y)), if_neg (by omega)]; exact ⟨_, rfl, K, R, GK_refl _ _⟩
theorem k_lh41 {x : Nat} {σ0 : St} {P : PoT} {hs : Nat → PoT} {c : Nat} {T : Nat → Int32} {n u v : Nat} (K0 : KL x σ0 P hs c T n) (R0 : Rm x σ0 u v) {p : Nat} (hp : p ≤ 99) : ∀ (d f : Nat) (σ : St), d ≤ 27 → d < f → FZ (okLy σ0 (x + 37)) (okLB (x + 37)) σ0 σ → BR (OwN σ0 (x + 37)) (hpC σ0 + pC σ0 (x + 37)) (hpS σ0 + pS σ0 (x + 37)) σ (x + 37) P (P.2.2 0) →
    ∃ τ, (sb (LX10_leastHeight_41 f x (zI p) (zI ((31 - d : Nat) : Int)) σ) fun wx14 => some ((-1), wx14)) = some (lhS (pgN P (P.2.2 0)) p d (31 - d), τ) ∧ FZ (okLy σ0 (x + 37)) (okLB (x + 37)) σ0 τ ∧ LI (OwN σ0 (x + 37)) (hpC σ0 + pC σ0 (x + 37)) (hpS σ0 + pS σ0 (x + 37)) τ (x + 37) := by
  have ho := K0.2.2
  obtain ⟨s1, s2, s3, s4, s5, s6, s7⟩ := ho.2.2
  intro d
  induction d with
  | zero =>
    intro f σ hd hf g br
    obtain ⟨f, rfl⟩ : ∃ f1, f = f1 + 1 := ⟨f - 1, by omega⟩
    obtain ⟨kk, -, -⟩ := k_trial K0 R0 g br.1
    obtain ⟨-, y5, y6, y7, y8⟩ := kk.1.2.2.2.2.2.2.2
    have el : f_X10_element σ (some (hpG σ 2)) 1 = some (zI (sHi 1)) := c_elS (i := 1) y6 y7 y8 (by decide)
    exact ⟨σ, by rw [LX10_leastHeight_41, el, bnd, if_pos (by decide), sb_inr1]; rfl, g, br.1⟩
  | succ d ih =>
    intro f σ hd hf g br
    obtain ⟨f, rfl⟩ : ∃ f1, f = f1 + 1 := ⟨f - 1, by omega⟩
    obtain ⟨kk, -, -⟩ := k_trial K0 R0 g br.1
    obtain ⟨k1, k2, k3, k4, k5, k6, k7, k8⟩ := kk.1
    obtain ⟨-, y5, y6, y7, y8⟩ := k8
    have el : f_X10_element σ (some (hpG σ 2)) 1 = some (zI (sHi 1)) := c_elS (i := 1) y6 y7 y8 (by decide)
    have h30 : ¬ zI ((sHi 1 : Nat) : Int) < zI ((31 - (d + 1) : Nat) : Int) := fun y => by
      have := (zN_lt (by decide) (by omega)).mp y
      have e0 : sHi 1 = 30 := rfl
      omega
    have st4 : f_X5_setting σ (x + 3) 4 = some (zI (P.2.2 4)) := c_setting (i := 4) k3.1 (by decide)
    obtain ⟨τ1, b1, b2, b3⟩ := l_pages ho s1 s2 (show 31 - (d + 1) ≤ 30 by omega) (show 4 ≤ 31 - (d + 1) by omega) br
    have g1 := FZ_trans g b3
    obtain ⟨kk1, -, -⟩ := k_trial K0 R0 g1 b2.1.1
    have hpg := b2.2.2.1.2
    rw [LX10_leastHeight_41, el, bnd, if_neg h30, dn_eq k1.1, bnd, k1.2.2.1, dn_eq k3.1.1.1, bnd, st4, bnd, k1.2.2.2.2.2.1, dn_eq k6.2.1, bnd, b1, bnd, dn_eq kk1.1.1.1, bnd, kk1.1.1.2.2.2.2.2.1, dn_eq b2.1.1.2.2.1, bnd, b2.2.2.1.1, lhS]
    by_cases y : pgN P (P.2.2 0) (31 - (d + 1)) ≤ p
    · rw [if_neg (fun z => by have := (zN_lt (by omega) (by omega)).mp z; omega), sb_inl, if_pos y]
      exact ⟨τ1, rfl, g1, b2.1.1⟩
    · obtain ⟨τ, m1, m2, m3⟩ := ih f τ1 (by omega) (by omega) g1 b2.1
      rw [if_pos ((zN_lt (by omega) (by omega)).mpr (by omega)), if_neg y, zN_add1, show 31 - (d + 1) + 1 = 31 - d by omega]
      exact ⟨τ, m1, m2, m3⟩
theorem k_least {x : Nat} {σ : St} {P : PoT} {hs : Nat → PoT} {c : Nat} {T : Nat → Int32} {n u v : Nat} (K : KL x σ P hs c T n) (R : Rm x σ u v) (hu : u ≤ NX) (hv : v ≤ SX) (w : Int) (w1 : -2147483648 ≤ w) (w2 : w ≤ 2147483647) :
    ∃ τ, f_X10_leastHeight σ x (zI w) = some (if 1 ≤ w ∧ w ≤ 99 then lhS (pgN P (P.2.2 0)) w.toNat 27 4 else -2, τ) ∧ KL x τ P hs c T n ∧ Rm x τ u v ∧ GK x σ τ := by
  obtain ⟨k, kL, ho⟩ := id K
  obtain ⟨k1, k2, k3, k4, k5, k6, k7, k8⟩ := id k
  obtain ⟨s1, s2, s3, s4, s5, s6, s7⟩ := ho.2.2
  have e0 : (zI w < 1) ↔ w < 1 := zlt (b := 1) w1 w2 (by omega) (by omega)
  have e1 : (zI w ≤ 99) ↔ w ≤ 99 := zle (b := 99) w1 w2 (by omega) (by omega)
  rw [f_X10_leastHeight]
  by_cases q : w < 1
  · rw [if_pos (e0.mpr q), if_neg (by omega)]; exact ⟨_, rfl, K, R, GK_refl _ _⟩
  · rw [if_neg (fun y => q (e0.mp y))]
    by_cases q2 : w ≤ 99
    · obtain ⟨p, rfl⟩ : ∃ m : Nat, w = m := ⟨w.toNat, by omega⟩
      have st0 : f_X5_setting σ (x + 3) 0 = some (zI (P.2.2 0)) := c_setting (i := 0) k3.1 (by decide)
      obtain ⟨τ1, a1, a2, a3⟩ := l_break ho s1 s2 k3.1 k6 (by have := R.1; omega) (by have := R.2; omega)
      obtain ⟨kk1, -, -⟩ := k_trial K R a3 a2.1
      obtain ⟨⟨y1, y2, y3, y4⟩, -⟩ := kk1.1.2.2.2.2.2.2.2
      have el : f_X10_element τ1 (some (hpG τ1 1)) 1 = some (zI (sLo 1)) := c_elS (i := 1) y2 y3 y4 (by decide)
      obtain ⟨τ, m1, m2, m3⟩ := k_lh41 K R (p := p) (by omega) 27 FU τ1 (Nat.le_refl _) (by simp only [FU]; omega) a3 a2
      have m1' : (sb (LX10_leastHeight_41 FU x (zI p) (zI (sLo 1)) τ1) fun wx14 => some ((-1), wx14)) = _ := m1
      obtain ⟨j1, j2, j3⟩ := k_trial K R m2 m3
      rw [if_pos (e1.mpr q2), k1.2.2.1, dn_eq k3.1.1.1, bnd, st0, bnd, k1.2.2.2.2.2.1, dn_eq k6.2.1, bnd, a1, bnd, el, bnd, m1', if_pos (by omega)]
      exact ⟨_, rfl, j1, j2, j3⟩
    · rw [if_neg (fun y => q2 (e1.mp y)), if_neg (by omega)]; exact ⟨_, rfl, K, R, GK_refl _ _⟩

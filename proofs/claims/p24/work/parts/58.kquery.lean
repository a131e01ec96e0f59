/-- the class stands, and has room -/
def KQ (x : Nat) (σ : St) (P : PoT) (hs : Nat → PoT) (c : Nat) (T : Nat → Int32) (n : Nat) : Prop := KL x σ P hs c T n ∧ Rm x σ NX SX
theorem KQ_LO {x : Nat} {σ : St} {P : PoT} {hs : Nat → PoT} {c : Nat} {T : Nat → Int32} {n : Nat} (K : KQ x σ P hs c T n) : ∃ C S, LO (fun _ => True) C S σ (x + 32) P (P.2.2 0) (P.2.2 1) := by
  obtain ⟨⟨k, kL, ho⟩, R1, R2⟩ := K
  exact ⟨_, _, LO_of (LI_of k.2.2.2.2.1 (by omega) (by omega)) kL⟩
theorem KQ_pos {x : Nat} {σ : St} {P : PoT} {hs : Nat → PoT} {c : Nat} {T : Nat → Int32} {n : Nat} (K : KQ x σ P hs c T n) : Pos P (P.2.2 0) (P.2.2 1) := by
  obtain ⟨⟨k, kL, ho⟩, R1, R2⟩ := K
  obtain ⟨s1, s2, s3, s4, s5, s6, s7⟩ := ho.2.2
  have h480 := rwN_le ho s1 s2
  obtain ⟨pc, np, p1, p2, ⟨q1, q2, q3, q4, q5⟩, -⟩ := kL.2.2.2.2.1
  have e480 : (layA P (P.2.2 0) P.2.1).1 ≤ 480 := h480
  have e : pc = pgN P (P.2.2 0) (P.2.2 1) := (zN_eq (by omega) (by have := kL.2.2.2.2.2.1.2; omega)).mp (p1.symm.trans kL.2.2.2.2.2.1.1)
  intro p hp
  exact q5 p (by omega)
theorem c_oneIf (σ : St) {m : Nat} (h : m ≤ 1) : f_X10_oneIf σ (zI m) = some (zI m) := by
  rcases (show m = 0 ∨ m = 1 by omega) with rfl | rfl <;> rfl
theorem ne_w {w : Int} {m i : Nat} (w1 : -2147483648 ≤ w) (w2 : w ≤ 2147483647) (h : ¬ (0 ≤ w ∧ w ≤ m)) (hi : i ≤ m) (hm : m ≤ 1000) : ¬ zI w = zI (i : Int) := fun x => by
  have := (zeq w1 w2 (by omega) (by omega)).mp x; omega
theorem k_line {x : Nat} {σ : St} {P : PoT} {hs : Nat → PoT} {c : Nat} {T : Nat → Int32} {n : Nat} (K : KQ x σ P hs c T n) (z w : Int) (z1 : -2147483648 ≤ z) (z2 : z ≤ 2147483647) (w1 : -2147483648 ≤ w) (w2 : w ≤ 2147483647) :
    f_X10_line σ x (zI z) (zI w) = some (if (0 ≤ z ∧ z < P.2.1) ∧ 0 ≤ w ∧ w ≤ 9 then zI (linV P (P.2.2 0) z.toNat w.toNat) else -2) := by
  obtain ⟨C, S, lo⟩ := KQ_LO K
  obtain ⟨⟨k, kL, ho⟩, R⟩ := K
  obtain ⟨k1, k2, k3, k4, k5, k6, k7, k8⟩ := id k
  have h24 := ho.1
  obtain ⟨⟨li, ro, s39, sl, zl⟩, -⟩ := id lo
  rw [f_X10_line, k1.2.2.1, dn_eq k3.1.1.1, bnd]
  by_cases q : 0 ≤ z ∧ z < P.2.1
  · obtain ⟨m, rfl⟩ : ∃ m : Nat, z = m := ⟨z.toNat, by omega⟩
    have hm : m < P.2.1 := by omega
    obtain ⟨al, l1, l2, l3, l4⟩ := c_lineAtN k3.1 hm
    obtain ⟨o1, o2, o3, o4, o5, o6, o7⟩ := ho.2.1 m hm
    obtain ⟨sp, b1, ⟨b2, b3, b4, b5⟩, b6⟩ := sl m hm
    have ks := SP_k li (show m < 24 by omega) b1
    obtain ⟨y1, ⟨wo, y2, y3, y4⟩, y5, y6, y7⟩ := l4
    have n1 : ¬ (some al : Option Nat) = none := by simp
    have n2 : ¬ (some sp : Option Nat) = none := by simp
    rw [l1, bnd, k1.2.2.2.2.1, dn_eq k5.2.1, bnd, c_spanAtN li s39 h24 hm, b1, bnd, if_neg n1, if_neg n2]
    by_cases q2 : 0 ≤ w ∧ w ≤ 9
    · obtain ⟨j, rfl⟩ : ∃ m : Nat, w = m := ⟨w.toNat, by omega⟩
      have eR : ∀ A B : Int32, (if (0 ≤ (m : Int) ∧ (m : Int) < P.2.1) ∧ 0 ≤ (j : Int) ∧ (j : Int) ≤ 9 then A else B) = A := fun A B => if_pos ⟨q, q2⟩
      rw [eR]
      show _ = some (zI (linV P (P.2.2 0) m j))
      rcases (show j = 0 ∨ j = 1 ∨ j = 2 ∨ j = 3 ∨ j = 4 ∨ j = 5 ∨ j = 6 ∨ j = 7 ∨ j = 8 ∨ j = 9 by omega) with rfl | rfl | rfl | rfl | rfl | rfl | rfl | rfl | rfl | rfl
      · rw [if_pos (by decide), dn_eq y1, bnd, y3, dn_eq y4.1, bnd, y4.2.2.2.2.2.2.2.2.2.1]; rfl
      · rw [if_neg (by decide), if_pos (by decide), dn_eq y1, bnd, y3, dn_eq y4.1, bnd, y4.2.2.2.2.2.2.2.2.1]; rfl
      · rw [if_neg (by decide), if_neg (by decide), if_pos (by decide), dn_eq y1, bnd, y5]; rfl
      · rw [if_neg (by decide), if_neg (by decide), if_neg (by decide), if_pos (by decide), dn_eq y1, bnd, y6, c_oneIf σ o6, bnd]; rfl
      · rw [if_neg (by decide), if_neg (by decide), if_neg (by decide), if_neg (by decide), if_pos (by decide), dn_eq ks.1, bnd, b2, c_oneIf σ (by split <;> omega), bnd]; rfl
      · rw [if_neg (by decide), if_neg (by decide), if_neg (by decide), if_neg (by decide), if_neg (by decide), if_pos (by decide), dn_eq y1, bnd, y7, c_oneIf σ o7, bnd]; rfl
      · rw [if_neg (by decide), if_neg (by decide), if_neg (by decide), if_neg (by decide), if_neg (by decide), if_neg (by decide), if_pos (by decide), dn_eq ks.1, bnd, b3]; rfl
      · rw [if_neg (by decide), if_neg (by decide), if_neg (by decide), if_neg (by decide), if_neg (by decide), if_neg (by decide), if_neg (by decide), if_pos (by decide), dn_eq ks.1, bnd, b5]; rfl
      · rw [if_neg (by decide), if_neg (by decide), if_neg (by decide), if_neg (by decide), if_neg (by decide), if_neg (by decide), if_neg (by decide), if_neg (by decide), if_pos (by decide), dn_eq ks.1, bnd, b6]; rfl
      · rw [if_neg (by decide), if_neg (by decide), if_neg (by decide), if_neg (by decide), if_neg (by decide), if_neg (by decide), if_neg (by decide), if_neg (by decide), if_neg (by decide), if_pos (by decide), dn_eq ks.1, bnd, b4]; rfl
    · rw [if_neg (show ¬ zI w = 0 from ne_w (m := 9) (i := 0) w1 w2 q2 (by decide) (by decide)), if_neg (show ¬ zI w = 1 from ne_w (m := 9) (i := 1) w1 w2 q2 (by decide) (by decide)), if_neg (show ¬ zI w = 2 from ne_w (m := 9) (i := 2) w1 w2 q2 (by decide) (by decide)), if_neg (show ¬ zI w = 3 from ne_w (m := 9) (i := 3) w1 w2 q2 (by decide) (by decide)), if_neg (show ¬ zI w = 4 from ne_w (m := 9) (i := 4) w1 w2 q2 (by decide) (by decide)), if_neg (show ¬ zI w = 5 from ne_w (m := 9) (i := 5) w1 w2 q2 (by decide) (by decide)), if_neg (show ¬ zI w = 6 from ne_w (m := 9) (i := 6) w1 w2 q2 (by decide) (by decide)), if_neg (show ¬ zI w = 7 from ne_w (m := 9) (i := 7) w1 w2 q2 (by decide) (by decide)), if_neg (show ¬ zI w = 8 from ne_w (m := 9) (i := 8) w1 w2 q2 (by decide) (by decide)), if_neg (show ¬ zI w = 9 from ne_w (m := 9) (i := 9) w1 w2 q2 (by decide) (by decide)), if_neg (fun y => q2 y.2)]
  · have es : (f_X1_spanAt σ (x + 32) (zI z)) = some (if 0 ≤ z ∧ z < P.2.1 then hpB σ (x + 32 + 2) z.toNat else none) := c_spanAt li s39 h24 z z1 z2
    rw [c_lineAt0 k3.1 z z1 z2 q, bnd, k1.2.2.2.2.1, dn_eq k5.2.1, bnd, es, bnd, if_pos rfl, if_neg (fun y => q y.1)]
theorem k_letter {x : Nat} {σ : St} {P : PoT} {hs : Nat → PoT} {c : Nat} {T : Nat → Int32} {n : Nat} (K : KQ x σ P hs c T n) (z w : Int) (z1 : -2147483648 ≤ z) (z2 : z ≤ 2147483647) (w1 : -2147483648 ≤ w) (w2 : w ≤ 2147483647) :
    f_X10_letter σ x (zI z) (zI w) = some (if (0 ≤ z ∧ z < P.2.1) ∧ 0 ≤ w then (if w < nLen (P.1 z.toNat) then nB (P.1 z.toNat) w.toNat else -1) else -2) := by
  obtain ⟨⟨k, kL, ho⟩, R⟩ := K
  obtain ⟨k1, k2, k3, k4, k5, k6, k7, k8⟩ := id k
  rw [f_X10_letter, k1.2.2.1, dn_eq k3.1.1.1, bnd]
  by_cases q : 0 ≤ z ∧ z < P.2.1
  · obtain ⟨m, rfl⟩ : ∃ m : Nat, z = m := ⟨z.toNat, by omega⟩
    have hm : m < P.2.1 := by omega
    obtain ⟨al, l1, l2, l3, l4⟩ := c_lineAtN k3.1 hm
    have hl := (ho.2.1 m hm).1
    obtain ⟨y1, ⟨wo, y2, y3, y4⟩, y5, y6, y7⟩ := l4
    have n1 : ¬ (some al : Option Nat) = none := by simp
    have e0 : (0 ≤ zI w) ↔ 0 ≤ w := zle (a := 0) (by omega) (by omega) w1 w2
    have e1 : (zI (nLen (P.1 m) : Int) ≤ zI w) ↔ (nLen (P.1 m) : Int) ≤ w := zle (by omega) (by omega) w1 w2
    rw [l1, bnd, if_neg n1]
    by_cases q2 : 0 ≤ w
    · have eR : ∀ A B : Int32, (if (0 ≤ (m : Int) ∧ (m : Int) < P.2.1) ∧ 0 ≤ w then A else B) = A := fun A B => if_pos ⟨q, q2⟩
      have e2 : ¬ zI w < 0 := fun y => by have := (zlt (b := 0) w1 w2 (by omega) (by omega)).mp y; omega
      obtain ⟨c1, c2, c3, c4, c5, c6, c7, c8, c9, c10, c11, c12⟩ := y4
      rw [eR, if_pos (e0.mpr q2), dn_eq y1, bnd, y3, dn_eq c1, bnd, f_X9_byteAt, if_neg e2, c8]
      by_cases q3 : w < nLen (P.1 m)
      · obtain ⟨j, rfl⟩ : ∃ m : Nat, w = m := ⟨w.toNat, by omega⟩
        have e3 : ¬ (zI (nLen (P.1 m) : Int) ≤ zI (j : Int)) := fun y => by have := e1.mp y; omega
        have e4 : (if (j : Int) < nLen (P.1 ((m : Int)).toNat) then nB (P.1 ((m : Int)).toNat) ((j : Int)).toNat else -1) = nB (P.1 m) j := if_pos q3
        rw [if_neg e3, c2, dn_eq c3, bnd, c4, nI_z, if_pos ((zN_lt (by omega) (by omega)).mpr (by omega)), ix_l _ _ (by omega) (by omega), bnd, c11 j (by omega), bnd, e4]
      · have e4 : (if w < nLen (P.1 ((m : Int)).toNat) then nB (P.1 ((m : Int)).toNat) w.toNat else -1) = -1 := if_neg q3
        rw [if_pos (e1.mpr (by omega)), bnd, e4]
    · rw [if_neg (fun y => q2 (e0.mp y)), if_neg (fun y => q2 y.2)]
  · rw [c_lineAt0 k3.1 z z1 z2 q, bnd, if_pos rfl, if_neg (fun y => q y.1)]
theorem c_rowF {C S : Nat} {σ : St} {t : Nat} {P : PoT} {W H : Nat} (lo : LO (fun _ => True) C S σ t P W H) {i : Nat} (hi : i < rwN P W) : ∃ ro, f_X1_rowAt σ t (zI i) = some (some ro) ∧ hpB σ (t + 1) i = some ro ∧ hpK σ ro = 6 ∧ RW σ ro (rwA P W i) (shA P W P.2.1 i) ∧ hpI σ 194 ro = zI (qfF P W H i) ∧ hpI σ 195 ro = zI (qfL P W H i) := by
  obtain ⟨⟨li, ro, s39, sl, zl⟩, pq, -⟩ := lo
  have h480 := ro.2.1
  have hi' : i < (layA P W P.2.1).1 := hi
  obtain ⟨a, a1, a2⟩ := ro.2.2.1 i hi
  obtain ⟨pc, np, p1, p2, ⟨q1, q2, q3, q4, q5⟩, -⟩ := pq
  obtain ⟨b, b1, b2, b3⟩ := q2 i hi
  rw [a1] at b1; cases b1
  exact ⟨a, by rw [c_rowAtN li ro.1 h480 hi, a1], a1, (RoL_k li (by omega) a1).1, a2, b2, b3⟩
theorem k_row {x : Nat} {σ : St} {P : PoT} {hs : Nat → PoT} {c : Nat} {T : Nat → Int32} {n : Nat} (K : KQ x σ P hs c T n) (z w : Int) (z1 : -2147483648 ≤ z) (z2 : z ≤ 2147483647) (w1 : -2147483648 ≤ w) (w2 : w ≤ 2147483647) :
    f_X10_row σ x (zI z) (zI w) = some (if 0 ≤ z ∧ 0 ≤ w ∧ w ≤ 8 then (if z < rwN P (P.2.2 0) then zI (rowV P (P.2.2 0) (P.2.2 1) z.toNat w.toNat) else -1) else -2) := by
  obtain ⟨C, S, lo⟩ := KQ_LO K
  obtain ⟨⟨k, kL, ho⟩, R⟩ := K
  obtain ⟨k1, k2, k3, k4, k5, k6, k7, k8⟩ := id k
  obtain ⟨s1, s2, s3, s4, s5, s6, s7⟩ := ho.2.2
  obtain ⟨⟨li, ro, s39, sl, zl⟩, -⟩ := id lo
  have h480 := rwN_le ho s1 s2
  have e0 : (zI z < 0) ↔ z < 0 := zlt (b := 0) z1 z2 (by omega) (by omega)
  have e1 : (zI w < 0) ↔ w < 0 := zlt (b := 0) w1 w2 (by omega) (by omega)
  have e2 : (zI w < 9) ↔ w < 9 := zlt (b := 9) w1 w2 (by omega) (by omega)
  rw [f_X10_row]
  by_cases q : z < 0
  · rw [if_pos (e0.mpr q), if_neg (by omega)]
  · rw [if_neg (fun y => q (e0.mp y))]
    by_cases q2 : w < 0
    · rw [if_pos (e1.mpr q2), if_neg (by omega)]
    · rw [if_neg (fun y => q2 (e1.mp y))]
      by_cases q3 : w < 9
      · have eR : ∀ A B : Int32, (if 0 ≤ z ∧ 0 ≤ w ∧ w ≤ 8 then A else B) = A := fun A B => if_pos (by omega)
        rw [if_pos (e2.mpr q3), k1.2.2.2.2.1, dn_eq k5.2.1, bnd, eR]
        by_cases q4 : z < rwN P (P.2.2 0)
        · obtain ⟨i, rfl⟩ : ∃ m : Nat, z = m := ⟨z.toNat, by omega⟩
          obtain ⟨j, rfl⟩ : ∃ m : Nat, w = m := ⟨w.toNat, by omega⟩
          obtain ⟨a, a1, a2, a3, ⟨c1, c2, c3, c4, c5, c6, c7⟩, a5, a6⟩ := c_rowF lo (show i < rwN P (P.2.2 0) by omega)
          have hir : i < rwN P (P.2.2 0) := by omega
          have hwi : rWi (rwA P (P.2.2 0) i) ≤ 1 := (lay_in ho s1 s2 hir).2.2
          have n1 : ¬ (some a : Option Nat) = none := by simp
          have e4 : ∀ A B : Int32, (if (i : Int) < rwN P (P.2.2 0) then A else B) = A := fun A B => if_pos q4
          rw [a1, bnd, if_neg n1, e4]
          show _ = some (zI (rowV P (P.2.2 0) (P.2.2 1) i j))
          rcases (show j = 0 ∨ j = 1 ∨ j = 2 ∨ j = 3 ∨ j = 4 ∨ j = 5 ∨ j = 6 ∨ j = 7 ∨ j = 8 by omega) with rfl | rfl | rfl | rfl | rfl | rfl | rfl | rfl | rfl
          · rw [if_pos (by decide), dn_eq a3, bnd, c1]; rfl
          · rw [if_neg (by decide), if_pos (by decide), dn_eq a3, bnd, c2]; rfl
          · rw [if_neg (by decide), if_neg (by decide), if_pos (by decide), dn_eq a3, bnd, a5]; rfl
          · rw [if_neg (by decide), if_neg (by decide), if_neg (by decide), if_pos (by decide), dn_eq a3, bnd, a6]; rfl
          · rw [if_neg (by decide), if_neg (by decide), if_neg (by decide), if_neg (by decide), if_pos (by decide), dn_eq a3, bnd, c3]; rfl
          · rw [if_neg (by decide), if_neg (by decide), if_neg (by decide), if_neg (by decide), if_neg (by decide), if_pos (by decide), dn_eq a3, bnd, c5]; rfl
          · rw [if_neg (by decide), if_neg (by decide), if_neg (by decide), if_neg (by decide), if_neg (by decide), if_neg (by decide), if_pos (by decide), dn_eq a3, bnd, c6]; rfl
          · rw [if_neg (by decide), if_neg (by decide), if_neg (by decide), if_neg (by decide), if_neg (by decide), if_neg (by decide), if_neg (by decide), if_pos (by decide), dn_eq a3, bnd, c7, c_oneIf σ hwi, bnd]; rfl
          · rw [if_neg (by decide), if_neg (by decide), if_neg (by decide), if_neg (by decide), if_neg (by decide), if_neg (by decide), if_neg (by decide), if_neg (by decide), dn_eq a3, bnd, f_X6_end, bnd, c3, c5, zN_add]; rfl
        · have e4 : ∀ A B : Int32, (if z < rwN P (P.2.2 0) then A else B) = B := fun A B => if_neg q4
          rw [c_rowAt0 li ro.1 ro.2.1 z z1 z2 (fun y => q4 (by have := y.2; exact this)), bnd, if_pos rfl, e4]
      · rw [if_neg (fun y => q3 (e2.mp y)), if_neg (by omega)]
theorem k_byte {x : Nat} {σ : St} {P : PoT} {hs : Nat → PoT} {c : Nat} {T : Nat → Int32} {n : Nat} (K : KQ x σ P hs c T n) {i col : Nat} (hi : i < rwN P (P.2.2 0)) (hc : col ≤ 1000) : ∃ ro, hpB σ (x + 32 + 1) i = some ro ∧ f_X10_byteInRow σ x (some ro) (zI col) = some (byV P (P.2.2 0) i col) := by
  obtain ⟨C, S, lo⟩ := KQ_LO K
  obtain ⟨⟨k, kL, ho⟩, R⟩ := K
  obtain ⟨k1, k2, k3, k4, k5, k6, k7, k8⟩ := id k
  obtain ⟨s1, s2, s3, s4, s5, s6, s7⟩ := ho.2.2
  obtain ⟨a, a1, a2, a3, ⟨c1, c2, c3, c4, c5, c6, c7⟩, a5, a6⟩ := c_rowF lo hi
  obtain ⟨l1, l2, l3⟩ := lay_in ho s1 s2 hi
  obtain ⟨w1, w2⟩ := lay_wd ho s1 s2 P.2.1 (Nat.le_refl _) i hi
  have hl := (ho.2.1 _ l1).1
  have er : rwA P (P.2.2 0) i = (layA P (P.2.2 0) P.2.1).2 i := rfl
  rw [er] at c1 c2 c3 c4 c5 c7
  refine ⟨a, a2, ?_⟩
  unfold byV
  rw [er]
  clear er
  generalize (layA P (P.2.2 0) P.2.1).2 i = r at *
  have n1 : ¬ (some a : Option Nat) = none := by simp
  rw [f_X10_byteInRow, if_neg n1, dn_eq a3, bnd, c3, f_X6_end, bnd, c3, c5, zN_add]
  by_cases q1 : col < rCo r
  · rw [if_pos ((zN_lt (by omega) (by omega)).mpr q1), if_neg (by omega)]
  · rw [if_neg (fun y => q1 ((zN_lt (by omega) (by omega)).mp y))]
    by_cases q2 : col < rCo r + rLe r
    · obtain ⟨al, m1, m2, m3, m4⟩ := c_lineAtN k3.1 l1
      obtain ⟨y1, ⟨wo, y2, y3, y4⟩, y5, y6, y7⟩ := m4
      obtain ⟨d1, d2, d3, d4, d5, d6, d7, d8, d9, d10, d11, d12⟩ := y4
      have n2 : ¬ (some al : Option Nat) = none := by simp
      have ei : zI (rFr r : Int) + zI col - zI (rCo r) = zI ((rFr r + (col - rCo r) : Nat) : Int) := by
        rw [zI_add, zI_sub]; congr 1; omega
      rw [if_pos ((zN_lt (by omega) (by omega)).mpr q2), k1.2.2.1, dn_eq k3.1.1.1, bnd, c1, m1, bnd, if_neg n2, dn_eq y1, bnd, y3, dn_eq d1, bnd, c4, ei, f_X9_byteAt, if_neg (zN_lt0 _ (by omega)), d8, if_neg (fun y => by have := (zN_le (by omega) (by omega)).mp y; omega), d2, dn_eq d3, bnd, d4, nI_z, if_pos ((zN_lt (by omega) (by omega)).mpr (by omega)), ix_l _ _ (by omega) (by omega), bnd, d11 _ (by omega), bnd, if_pos (by omega)]
    · rw [if_neg (fun y => q2 ((zN_lt (by omega) (by omega)).mp y)), if_neg (by omega)]


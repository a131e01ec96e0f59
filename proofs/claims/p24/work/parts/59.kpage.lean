theorem c_pageF {C S : Nat} {σ : St} {t : Nat} {P : PoT} {W H : Nat} (ho : okP P) (hW : 12 ≤ W) (hW2 : W ≤ 60) (lo : LO (fun _ => True) C S σ t P W H) {p : Nat} (hp : p < pgN P W H) : ∃ pa, f_X1_pageAt σ t (zI p) = some (some pa) ∧ hpK σ pa = 4 ∧ PGW σ pa (pgD P W H p) ∧ hpI σ 132 pa = zI (mkS P W (pagQ P W H P.2.1) p) := by
  have h480 := rwN_le ho hW hW2
  obtain ⟨⟨li, ro, s39, sl, zl⟩, pq, ⟨e38, l38⟩, mk⟩ := lo
  obtain ⟨a, a1, a2⟩ := mk p hp
  obtain ⟨pc, np, p1, p2, ⟨q1, q2, q3, q4, q5⟩, -⟩ := pq
  have e480 : (layA P W P.2.1).1 ≤ 480 := h480
  have e : pc = pgN P W H := (zN_eq (by omega) (by omega)).mp (p1.symm.trans e38)
  obtain ⟨b, b1, b2⟩ := q1 p (by omega)
  rw [a1] at b1; cases b1
  exact ⟨a, by rw [c_pageAtN li e38 l38 hp, a1], (P_k li (by omega) a1).1, b2, a2⟩
theorem c_rap {C S : Nat} {σ : St} {t : Nat} {P : PoT} {W H : Nat} (ho : okP P) (hW : 12 ≤ W) (hW2 : W ≤ 60) (hH : 4 ≤ H) (hH2 : H ≤ 30) (lo : LO (fun _ => True) C S σ t P W H) {p q pa : Nat} (hpos : 0 < (pgD P W H p).2.1) (hpk : hpK σ pa = 4) (hpw : PGW σ pa (pgD P W H p)) (hq1 : q ≤ 1000) : ∀ (d i f : Nat), (pgD P W H p).1 ≤ i → i + d = (pgD P W H p).1 + (pgD P W H p).2.1 → d < f → LX1_rowAtPlace_5 f σ t (some pa) (zI q) (zI i) = some (match atF (qfF P W H) (qfL P W H) p q d i with
  | none => .inr ()
  | some j => .inl (hpB σ (t + 1) j)) := by
  have h480 := rwN_le ho hW hW2
  obtain ⟨i1, i2, i3, i4, i5⟩ := PI_pag P (W := W) hH P.2.1
  have hin := (pgS_in (L := qfL P W H) (X := XR (layA P W P.2.1)) (p := p) (F := qfF P W H) (rwN P W) i1).2 hpos
  have hct := pgS_ct (L := qfL P W H) (X := XR (layA P W P.2.1)) (p := p) (F := qfF P W H) (rwN P W) i1
  have ed : pgS (qfF P W H) (qfL P W H) (XR (layA P W P.2.1)) p (rwN P W) = pgD P W H p := rfl
  rw [ed] at hin hct
  obtain ⟨g3, g4, g5, g6⟩ := hpw
  intro d
  induction d with
  | zero =>
    intro i f h1 hi hf
    obtain ⟨f, rfl⟩ : ∃ f1, f = f1 + 1 := ⟨f - 1, by omega⟩
    rw [LX1_rowAtPlace_5, dn_eq hpk, bnd, g3, g4, zN_add, if_pos ((zN_le (by omega) (by omega)).mpr (by omega))]; rfl
  | succ d ih =>
    intro i f h1 hi hf
    obtain ⟨f, rfl⟩ : ∃ f1, f = f1 + 1 := ⟨f - 1, by omega⟩
    have hir : i < rwN P W := by omega
    have hF : qfF P W H i = p := (hin i hir).mpr ⟨h1, by omega⟩
    obtain ⟨ro, r1, r2, r3, r4, r5, r6⟩ := c_rowF lo hir
    have jl : qfL P W H i ≤ 30 := by have := (i2 i hir).2; exact Nat.le_trans (Nat.le_of_lt this) hH2
    have n1 : ¬ (some ro : Option Nat) = none := by simp
    have el : (zI ((qfL P W H i : Nat) : Int) = zI q) ↔ qfL P W H i = q := zN_eq (by omega) (by omega)
    rw [LX1_rowAtPlace_5, dn_eq hpk, bnd, g3, g4, zN_add, if_neg (fun y => by have := (zN_le (by omega) (by omega)).mp y; omega), r1, bnd, if_neg n1, dn_eq r3, bnd, r6, atF]
    by_cases y : qfL P W H i = q
    · rw [if_neg (fun z => z (el.mpr y)), sb_inl, if_pos ⟨hF, y⟩]
      show some (Sum.inl (some ro)) = some (Sum.inl (hpB σ (t + 1) i))
      rw [r2]
    · rw [if_pos (fun z => y (el.mp z)), sb_inr1, if_neg (fun z => y z.2), zN_add1]
      exact ih (i + 1) f (by omega) (by omega) (by omega)
theorem k_at {x : Nat} {σ : St} {P : PoT} {hs : Nat → PoT} {c : Nat} {T : Nat → Int32} {n : Nat} (K : KQ x σ P hs c T n) (a b e : Int) (a1 : -2147483648 ≤ a) (a2 : a ≤ 2147483647) (b1 : -2147483648 ≤ b) (b2 : b ≤ 2147483647) (e1 : -2147483648 ≤ e) (e2 : e ≤ 2147483647) :
    f_X10_at σ x (zI a) (zI b) (zI e) = some (if (0 ≤ a ∧ a < pgN P (P.2.2 0) (P.2.2 1)) ∧ (0 ≤ b ∧ b < P.2.2 1) ∧ 0 ≤ e ∧ e < P.2.2 0 then atV P (P.2.2 0) (P.2.2 1) a.toNat b.toNat e.toNat else -2) := by
  have hps := KQ_pos K
  obtain ⟨C, S, lo⟩ := KQ_LO K
  obtain ⟨⟨k, kL, ho⟩, R⟩ := id K
  obtain ⟨k1, k2, k3, k4, k5, k6, k7, k8⟩ := id k
  obtain ⟨s1, s2, s3, s4, s5, s6, s7⟩ := ho.2.2
  have h480 := rwN_le ho s1 s2
  have f0 : (zI b < 0) ↔ b < 0 := zlt (b := 0) b1 b2 (by omega) (by omega)
  have f1 : (zI b < zI (P.2.2 1 : Int)) ↔ b < P.2.2 1 := zlt b1 b2 (by omega) (by omega)
  have f2 : (zI e < 0) ↔ e < 0 := zlt (b := 0) e1 e2 (by omega) (by omega)
  have f3 : (zI e < zI (P.2.2 0 : Int)) ↔ e < P.2.2 0 := zlt e1 e2 (by omega) (by omega)
  have st1 : f_X5_setting σ (x + 3) 1 = some (zI (P.2.2 1)) := c_setting (i := 1) k3.1 (by decide)
  have st0 : f_X5_setting σ (x + 3) 0 = some (zI (P.2.2 0)) := c_setting (i := 0) k3.1 (by decide)
  rw [f_X10_at, k1.2.2.2.2.1, dn_eq k5.2.1, bnd]
  by_cases q : 0 ≤ a ∧ a < pgN P (P.2.2 0) (P.2.2 1)
  · obtain ⟨p, rfl⟩ : ∃ m : Nat, a = m := ⟨a.toNat, by omega⟩
    have hpp : p < pgN P (P.2.2 0) (P.2.2 1) := by omega
    obtain ⟨pa, g1, g2, g3, g7⟩ := c_pageF ho s1 s2 lo hpp
    have n1 : ¬ (some pa : Option Nat) = none := by simp
    rw [g1, bnd, if_neg n1]
    by_cases q1 : b < 0
    · rw [if_pos (f0.mpr q1), if_neg (by omega)]
    · rw [if_neg (fun y => q1 (f0.mp y)), k1.2.2.1, dn_eq k3.1.1.1, bnd, st1, bnd]
      by_cases q2 : b < P.2.2 1
      · rw [if_pos (f1.mpr q2)]
        by_cases q3 : e < 0
        · rw [if_pos (f2.mpr q3), if_neg (by omega)]
        · rw [if_neg (fun y => q3 (f2.mp y)), st0, bnd]
          by_cases q4 : e < P.2.2 0
          · obtain ⟨j, rfl⟩ : ∃ m : Nat, b = m := ⟨b.toNat, by omega⟩
            obtain ⟨m, rfl⟩ : ∃ m : Nat, e = m := ⟨e.toNat, by omega⟩
            have eR : ∀ A B : Int32, (if (0 ≤ (p : Int) ∧ (p : Int) < pgN P (P.2.2 0) (P.2.2 1)) ∧ (0 ≤ (j : Int) ∧ (j : Int) < P.2.2 1) ∧ 0 ≤ (m : Int) ∧ (m : Int) < P.2.2 0 then A else B) = A := fun A B => if_pos ⟨q, ⟨by omega, q2⟩, by omega, q4⟩
            have hpos := hps p hpp
            obtain ⟨i1, i2, i3, i4, i5⟩ := PI_pag P (W := P.2.2 0) s3 P.2.1
            have hct := pgS_ct (L := qfL P (P.2.2 0) (P.2.2 1)) (X := XR (layA P (P.2.2 0) P.2.1)) (p := p) (F := qfF P (P.2.2 0) (P.2.2 1)) (rwN P (P.2.2 0)) i1
            have hr1 : (pgD P (P.2.2 0) (P.2.2 1) p).2.1 ≤ 480 := by
              have hct' : (pgD P (P.2.2 0) (P.2.2 1) p).1 + (pgD P (P.2.2 0) (P.2.2 1) p).2.1 ≤ rwN P (P.2.2 0) ∨ (pgD P (P.2.2 0) (P.2.2 1) p).2.1 = 0 := hct
              omega
            have g := c_rap ho s1 s2 s3 s4 lo (q := j) hpos g2 g3 (by omega) (pgD P (P.2.2 0) (P.2.2 1) p).2.1 (pgD P (P.2.2 0) (P.2.2 1) p).1 FU (Nat.le_refl _) rfl (by simp only [FU]; omega)
            have ea := atF_page (L := qfL P (P.2.2 0) (P.2.2 1)) (X := XR (layA P (P.2.2 0) P.2.1)) (p := p) (q := j) (F := qfF P (P.2.2 0) (P.2.2 1)) (r := rwN P (P.2.2 0)) i1 hpos
            have ea' : atF (qfF P (P.2.2 0) (P.2.2 1)) (qfL P (P.2.2 0) (P.2.2 1)) p j (rwN P (P.2.2 0)) 0 = atF (qfF P (P.2.2 0) (P.2.2 1)) (qfL P (P.2.2 0) (P.2.2 1)) p j (pgD P (P.2.2 0) (P.2.2 1) p).2.1 (pgD P (P.2.2 0) (P.2.2 1) p).1 := ea
            rw [← ea'] at g
            rw [if_pos (f3.mpr q4), eR, f_X1_rowAtPlace, dn_eq g2, bnd, g3.1, g]
            show _ = some (atV P (P.2.2 0) (P.2.2 1) p j m)
            unfold atV
            cases hat : atF (qfF P (P.2.2 0) (P.2.2 1)) (qfL P (P.2.2 0) (P.2.2 1)) p j (rwN P (P.2.2 0)) 0 with
            | none =>
              show ((sb (some (Sum.inr ())) fun wx4 => some (none : Option Nat)).bind fun q16 => (f_X10_byteInRow σ x q16 (zI m)).bind fun q18 => some q18) = _
              rw [sb_inr1, bnd, f_X10_byteInRow, if_pos rfl, bnd]
            | some i =>
              have hi := (atF_lt _ _ _ hat).2
              obtain ⟨ro, r1, r2⟩ := k_byte K (i := i) (col := m) (by omega) (by omega)
              show ((sb (some (Sum.inl (hpB σ (x + 32 + 1) i))) fun wx4 => some (none : Option Nat)).bind fun q16 => (f_X10_byteInRow σ x q16 (zI m)).bind fun q18 => some q18) = _
              rw [sb_inl, bnd, r1, r2, bnd]
          · rw [if_neg (fun y => q4 (f3.mp y)), if_neg (by omega)]
      · rw [if_neg (fun y => q2 (f1.mp y)), if_neg (by omega)]
  · rw [c_pageAt0 lo.1.1 lo.2.2.1.1 lo.2.2.1.2 a a1 a2 q, bnd, if_pos rfl, if_neg (fun y => q y.1)]


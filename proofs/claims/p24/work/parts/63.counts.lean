def smS (f : Nat → Nat) : Nat → Nat
  | 0 => 0
  | m + 1 => smS f m + f m
theorem rwN_ge (P : PoT) (W : Nat) : ∀ k, k ≤ (layA P W k).1
  | 0 => Nat.zero_le _
  | k + 1 => by have := rwN_ge P W k; have := layA_lt P W k; omega
def wiV (P : PoT) (W i : Nat) : Nat := rWi (rwA P W i)
/-- the numbers that are counted -/
def cntV (P : PoT) (W H c n w : Nat) : Nat := if w = 0 then P.2.1 else if w = 1 then szN P P.2.1 else if w = 2 then rwN P W else if w = 3 then pgN P W H else if w = 4 then rwN P W - P.2.1 else if w = 5 then smS (wiV P W) (rwN P W) else if w = 6 then smS (mkS P W (pagQ P W H P.2.1)) (pgN P W H) else if w = 7 then nuP P P.2.1 else if w = 8 then mxS (wdV P W) 0 (rwN P W) else if w = 9 then c else if w = 10 then n else P.2.2 (w - 11)
theorem mkS_1 (P : PoT) (W : Nat) (s : QS) (p : Nat) : mkS P W s p ≤ 1 := by unfold mkS; split <;> omega
theorem c_cuts1 {C S : Nat} {σ : St} {t : Nat} {P : PoT} {W H : Nat} (ho : okP P) (hW : 12 ≤ W) (hW2 : W ≤ 60) (lo : LO (fun _ => True) C S σ t P W H) : ∀ (d i f : Nat), i + d = rwN P W → d < f → LX1_cuts_4 f σ t (zI (smS (wiV P W) i)) (zI i) = some (zI (smS (wiV P W) (rwN P W))) := by
  have h480 := rwN_le ho hW hW2
  have e36 : hpI σ 36 t = zI (rwN P W) := lo.1.2.1.1
  intro d
  induction d with
  | zero =>
    intro i f hi hf
    obtain ⟨f, rfl⟩ : ∃ f1, f = f1 + 1 := ⟨f - 1, by omega⟩
    have e : i = rwN P W := by omega
    subst e
    rw [LX1_cuts_4, e36, if_pos ((zN_le (by omega) (by omega)).mpr (Nat.le_refl _))]
  | succ d ih =>
    intro i f hi hf
    obtain ⟨f, rfl⟩ : ∃ f1, f = f1 + 1 := ⟨f - 1, by omega⟩
    have hir : i < rwN P W := by omega
    obtain ⟨ro, r1, r2, r3, r4, r5, r6⟩ := c_rowF lo hir
    have hwi : rWi (rwA P W i) ≤ 1 := (lay_in ho hW hW2 hir).2.2
    have n1 : ¬ (some ro : Option Nat) = none := by simp
    have e7 : hpI σ 200 ro = zI (rWi (rwA P W i)) := r4.2.2.2.2.2.2
    have ex : ∀ m : Nat, m ≤ 1 → (if zI (m : Int) = 0 then some (0 : Int32) else some 1) = some (zI m) := by
      intro m hm
      rcases (show m = 0 ∨ m = 1 by omega) with rfl | rfl <;> rfl
    rw [LX1_cuts_4, e36, if_neg (fun x => by have := (zN_le (by omega) (by omega)).mp x; omega), r1, bnd, if_neg n1, dn_eq r3, bnd, e7, ex _ hwi, bnd, c_oneIf σ hwi, bnd, zN_add, zN_add1]
    exact ih (i + 1) f (by omega) (by omega)
theorem c_marked1 {C S : Nat} {σ : St} {t : Nat} {P : PoT} {W H : Nat} (ho : okP P) (hW : 12 ≤ W) (hW2 : W ≤ 60) (lo : LO (fun _ => True) C S σ t P W H) : ∀ (d i f : Nat), i + d = pgN P W H → d < f → LX1_markedPages_4 f σ t (zI (smS (mkS P W (pagQ P W H P.2.1)) i)) (zI i) = some (zI (smS (mkS P W (pagQ P W H P.2.1)) (pgN P W H))) := by
  obtain ⟨e38, l38⟩ := lo.2.2.1
  intro d
  induction d with
  | zero =>
    intro i f hi hf
    obtain ⟨f, rfl⟩ : ∃ f1, f = f1 + 1 := ⟨f - 1, by omega⟩
    have e : i = pgN P W H := by omega
    subst e
    rw [LX1_markedPages_4, e38, if_pos ((zN_le (by omega) (by omega)).mpr (Nat.le_refl _))]
  | succ d ih =>
    intro i f hi hf
    obtain ⟨f, rfl⟩ : ∃ f1, f = f1 + 1 := ⟨f - 1, by omega⟩
    obtain ⟨pa, g1, g2, g3, g7⟩ := c_pageF ho hW hW2 lo (show i < pgN P W H by omega)
    have hm := mkS_1 P W (pagQ P W H P.2.1) i
    have n1 : ¬ (some pa : Option Nat) = none := by simp
    have ex : ∀ m : Nat, m ≤ 1 → (if zI (m : Int) = 0 then some (0 : Int32) else some 1) = some (zI m) := by
      intro m hm
      rcases (show m = 0 ∨ m = 1 by omega) with rfl | rfl <;> rfl
    rw [LX1_markedPages_4, e38, if_neg (fun x => by have := (zN_le (by omega) (by omega)).mp x; omega), g1, bnd, if_neg n1, dn_eq g2, bnd, g7, ex _ hm, bnd, c_oneIf σ hm, bnd, zN_add, zN_add1]
    exact ih (i + 1) f (by omega) (by omega)
theorem k_count {x : Nat} {σ : St} {P : PoT} {hs : Nat → PoT} {c : Nat} {T : Nat → Int32} {n : Nat} (K : KQ x σ P hs c T n) (w : Int) (w1 : -2147483648 ≤ w) (w2 : w ≤ 2147483647) :
    f_X10_count σ x (zI w) = some (if 0 ≤ w ∧ w ≤ 15 then zI (cntV P (P.2.2 0) (P.2.2 1) c n w.toNat) else -2) := by
  obtain ⟨C, S, lo⟩ := KQ_LO K
  obtain ⟨⟨k, kL, ho⟩, R⟩ := id K
  obtain ⟨k1, k2, k3, k4, k5, k6, k7, k8⟩ := id k
  obtain ⟨s1, s2, s3, s4, s5, s6, s7⟩ := ho.2.2
  have h24 := ho.1
  have h480 := rwN_le ho s1 s2
  have e36 : hpI σ 36 (x + 32) = zI (rwN P (P.2.2 0)) := lo.1.2.1.1
  have ge : P.2.1 ≤ rwN P (P.2.2 0) := rwN_ge P (P.2.2 0) P.2.1
  have cu := c_cuts1 ho s1 s2 lo (rwN P (P.2.2 0)) 0 FU (by omega) (by simp only [FU]; omega)
  have cu' : LX1_cuts_4 FU σ (x + 32) 0 0 = _ := cu
  have ma := c_marked1 ho s1 s2 lo (pgN P (P.2.2 0) (P.2.2 1)) 0 FU (by omega) (by have := lo.2.2.1.2; simp only [FU]; omega)
  have ma' : LX1_markedPages_4 FU σ (x + 32) 0 0 = _ := ma
  have gw : f_X1_greatestWidth σ (x + 32) 0 (zI (rwN P (P.2.2 0))) = some (zI (mxS (wdV P (P.2.2 0)) 0 (rwN P (P.2.2 0)))) := c_gw (f0 := 0) ho s1 s2 lo (by omega)
  rw [f_X10_count]
  by_cases q : 0 ≤ w ∧ w ≤ 15
  · obtain ⟨j, rfl⟩ : ∃ m : Nat, w = m := ⟨w.toNat, by omega⟩
    rw [if_pos q]
    show _ = some (zI (cntV P (P.2.2 0) (P.2.2 1) c n j))
    rcases (show j = 0 ∨ j = 1 ∨ j = 2 ∨ j = 3 ∨ j = 4 ∨ j = 5 ∨ j = 6 ∨ j = 7 ∨ j = 8 ∨ j = 9 ∨ j = 10 ∨ j = 11 ∨ j = 12 ∨ j = 13 ∨ j = 14 ∨ j = 15 by omega) with rfl | rfl | rfl | rfl | rfl | rfl | rfl | rfl | rfl | rfl | rfl | rfl | rfl | rfl | rfl | rfl
    · rw [if_pos (by decide), k1.2.2.1, dn_eq k3.1.1.1, bnd, k3.1.2.1]; rfl
    · rw [if_neg (by decide), if_pos (by decide), k1.2.2.2.2.1, dn_eq k5.2.1, bnd, lo.1.2.2.2.2.1]; rfl
    · rw [if_neg (by decide), if_neg (by decide), if_pos (by decide), k1.2.2.2.2.1, dn_eq k5.2.1, bnd, e36]; rfl
    · rw [if_neg (by decide), if_neg (by decide), if_neg (by decide), if_pos (by decide), k1.2.2.2.2.1, dn_eq k5.2.1, bnd, lo.2.2.1.1]; rfl
    · rw [if_neg (by decide), if_neg (by decide), if_neg (by decide), if_neg (by decide), if_pos (by decide), k1.2.2.2.2.1, dn_eq k5.2.1, bnd, f_X1_runOvers, bnd, e36, lo.1.2.2.1, zN_sub ge]; rfl
    · rw [if_neg (by decide), if_neg (by decide), if_neg (by decide), if_neg (by decide), if_neg (by decide), if_pos (by decide), k1.2.2.2.2.1, dn_eq k5.2.1, bnd, f_X1_cuts, cu', bnd, bnd]; rfl
    · rw [if_neg (by decide), if_neg (by decide), if_neg (by decide), if_neg (by decide), if_neg (by decide), if_neg (by decide), if_pos (by decide), k1.2.2.2.2.1, dn_eq k5.2.1, bnd, f_X1_markedPages, ma', bnd, bnd]; rfl
    · rw [if_neg (by decide), if_neg (by decide), if_neg (by decide), if_neg (by decide), if_neg (by decide), if_neg (by decide), if_neg (by decide), if_pos (by decide), k1.2.2.2.2.1, dn_eq k5.2.1, bnd, c_lastNumber lo.1.1 lo.1.2.2.1 h24 lo.1.2.2.2.1, bnd]; rfl
    · rw [if_neg (by decide), if_neg (by decide), if_neg (by decide), if_neg (by decide), if_neg (by decide), if_neg (by decide), if_neg (by decide), if_neg (by decide), if_pos (by decide), k1.2.2.2.2.1, dn_eq k5.2.1, bnd, e36, gw, bnd]; rfl
    · rw [if_neg (by decide), if_neg (by decide), if_neg (by decide), if_neg (by decide), if_neg (by decide), if_neg (by decide), if_neg (by decide), if_neg (by decide), if_neg (by decide), if_pos (by decide), k1.2.2.2.1, dn_eq k4.1.1, bnd, k4.2.1]; rfl
    · rw [if_neg (by decide), if_neg (by decide), if_neg (by decide), if_neg (by decide), if_neg (by decide), if_neg (by decide), if_neg (by decide), if_neg (by decide), if_neg (by decide), if_neg (by decide), if_pos (by decide), k1.2.1, dn_k k2.2.1, bnd, k2.2.2.2.2.2.1]; rfl
    · have st : f_X5_setting σ (x + 3) (zI ((11 : Nat) : Int) - 11) = some (zI (P.2.2 0)) := c_setting (i := 0) k3.1 (by decide)
      rw [if_neg (by decide), if_neg (by decide), if_neg (by decide), if_neg (by decide), if_neg (by decide), if_neg (by decide), if_neg (by decide), if_neg (by decide), if_neg (by decide), if_neg (by decide), if_neg (by decide), f_X10_countedSetting, if_neg (by decide), if_pos (by decide), k1.2.2.1, dn_eq k3.1.1.1, bnd, st, bnd, bnd]; rfl
    · have st : f_X5_setting σ (x + 3) (zI ((12 : Nat) : Int) - 11) = some (zI (P.2.2 1)) := c_setting (i := 1) k3.1 (by decide)
      rw [if_neg (by decide), if_neg (by decide), if_neg (by decide), if_neg (by decide), if_neg (by decide), if_neg (by decide), if_neg (by decide), if_neg (by decide), if_neg (by decide), if_neg (by decide), if_neg (by decide), f_X10_countedSetting, if_neg (by decide), if_pos (by decide), k1.2.2.1, dn_eq k3.1.1.1, bnd, st, bnd, bnd]; rfl
    · have st : f_X5_setting σ (x + 3) (zI ((13 : Nat) : Int) - 11) = some (zI (P.2.2 2)) := c_setting (i := 2) k3.1 (by decide)
      rw [if_neg (by decide), if_neg (by decide), if_neg (by decide), if_neg (by decide), if_neg (by decide), if_neg (by decide), if_neg (by decide), if_neg (by decide), if_neg (by decide), if_neg (by decide), if_neg (by decide), f_X10_countedSetting, if_neg (by decide), if_pos (by decide), k1.2.2.1, dn_eq k3.1.1.1, bnd, st, bnd, bnd]; rfl
    · have st : f_X5_setting σ (x + 3) (zI ((14 : Nat) : Int) - 11) = some (zI (P.2.2 3)) := c_setting (i := 3) k3.1 (by decide)
      rw [if_neg (by decide), if_neg (by decide), if_neg (by decide), if_neg (by decide), if_neg (by decide), if_neg (by decide), if_neg (by decide), if_neg (by decide), if_neg (by decide), if_neg (by decide), if_neg (by decide), f_X10_countedSetting, if_neg (by decide), if_pos (by decide), k1.2.2.1, dn_eq k3.1.1.1, bnd, st, bnd, bnd]; rfl
    · have st : f_X5_setting σ (x + 3) (zI ((15 : Nat) : Int) - 11) = some (zI (P.2.2 4)) := c_setting (i := 4) k3.1 (by decide)
      rw [if_neg (by decide), if_neg (by decide), if_neg (by decide), if_neg (by decide), if_neg (by decide), if_neg (by decide), if_neg (by decide), if_neg (by decide), if_neg (by decide), if_neg (by decide), if_neg (by decide), f_X10_countedSetting, if_neg (by decide), if_pos (by decide), k1.2.2.1, dn_eq k3.1.1.1, bnd, st, bnd, bnd]; rfl
  · rw [if_neg (show ¬ zI w = 0 from ne_w (m := 15) (i := 0) w1 w2 q (by decide) (by decide)), if_neg (show ¬ zI w = 1 from ne_w (m := 15) (i := 1) w1 w2 q (by decide) (by decide)), if_neg (show ¬ zI w = 2 from ne_w (m := 15) (i := 2) w1 w2 q (by decide) (by decide)), if_neg (show ¬ zI w = 3 from ne_w (m := 15) (i := 3) w1 w2 q (by decide) (by decide)), if_neg (show ¬ zI w = 4 from ne_w (m := 15) (i := 4) w1 w2 q (by decide) (by decide)), if_neg (show ¬ zI w = 5 from ne_w (m := 15) (i := 5) w1 w2 q (by decide) (by decide)), if_neg (show ¬ zI w = 6 from ne_w (m := 15) (i := 6) w1 w2 q (by decide) (by decide)), if_neg (show ¬ zI w = 7 from ne_w (m := 15) (i := 7) w1 w2 q (by decide) (by decide)), if_neg (show ¬ zI w = 8 from ne_w (m := 15) (i := 8) w1 w2 q (by decide) (by decide)), if_neg (show ¬ zI w = 9 from ne_w (m := 15) (i := 9) w1 w2 q (by decide) (by decide)), if_neg (show ¬ zI w = 10 from ne_w (m := 15) (i := 10) w1 w2 q (by decide) (by decide)), f_X10_countedSetting, if_neg q]
    have e1 : (zI w < 11) ↔ w < 11 := zlt (b := 11) w1 w2 (by omega) (by omega)
    have e2 : (zI w < 16) ↔ w < 16 := zlt (b := 16) w1 w2 (by omega) (by omega)
    by_cases y : w < 11
    · rw [if_pos (e1.mpr y), bnd]
    · rw [if_neg (fun z => y (e1.mp z)), if_neg (fun z => by have := e2.mp z; omega), bnd]

/-- n numbers of array r0 from x on, put into array r1 from y on -/
def cpA (M : MS) (r1 y r0 x n : Nat) : MS := (M.1, fun r j => if r = r1 ∧ y ≤ j ∧ j < y + n then M.2.1 r0 (x + (j - y)) else M.2.1 r j, M.2.2)
theorem cpA_0 (M : MS) (r1 y r0 x : Nat) : cpA M r1 y r0 x 0 = M := by
  simp only [cpA]
  have : (fun r j => if r = r1 ∧ y ≤ j ∧ j < y + 0 then M.2.1 r0 (x + (j - y)) else M.2.1 r j) = M.2.1 := by
    funext r j; rw [if_neg (by omega)]
  rw [this]
theorem cpA_A (M : MS) (r1 y r0 x n r j : Nat) : mA (cpA M r1 y r0 x n) r j = if r = r1 ∧ y ≤ j ∧ j < y + n then mA M r0 (x + (j - y)) else mA M r j := rfl
theorem cpA_F (M : MS) (r1 y r0 x n k : Nat) : mF (cpA M r1 y r0 x n) k = mF M k := rfl
theorem cpA_s (M : MS) (r1 y r0 x n : Nat) (h : r0 ≠ r1 ∨ x + n < y ∨ y + n ≤ x + n) : eA (cpA M r1 y r0 x n) r1 (y + n) (mA (cpA M r1 y r0 x n) r0 (x + n)) = cpA M r1 y r0 x (n + 1) := by
  rw [cpA_A, if_neg (by omega)]
  simp only [eA, cpA, Prod.mk.injEq, true_and, and_true]
  funext r j
  simp only [up2]
  by_cases q : r = r1 ∧ j = y + n
  · rw [if_pos q, if_pos (by omega), show x + (j - y) = x + n by omega]; rfl
  · rw [if_neg q]
    by_cases z : r = r1 ∧ y ≤ j ∧ j < y + n
    · rw [if_pos z, if_pos (by omega)]
    · rw [if_neg z, if_neg (by omega)]
theorem zN_mul (a b : Nat) : zI (a : Int) * zI b = zI ((a * b : Nat) : Int) := by rw [zI_mul]; congr 1
theorem g_kp11 {M : MS} : ∀ (d v f : Nat), v + d = 14322 → d < f → LGX11_keeps_11 f (zI v) (cpA M 1 0 1 2046 v) = some (cpA M 1 0 1 2046 14322) := by
  intro d
  induction d with
  | zero =>
    intro v f h hf
    obtain ⟨f, rfl⟩ : ∃ f', f = f' + 1 := ⟨f - 1, by omega⟩
    have hc : (14322 : Int32) ≤ zI v := (zN_le (a := 14322) (by omega) (by omega)).mpr (by omega)
    rw [LGX11_keeps_11, if_pos hc, show v = 14322 by omega]
  | succ d ih =>
    intro v f h hf
    obtain ⟨f, rfl⟩ : ∃ f', f = f' + 1 := ⟨f - 1, by omega⟩
    have hc : ¬ (14322 : Int32) ≤ zI v := fun q => by have := (zN_le (a := 14322) (by omega) (by omega)).mp q; omega
    have e1 : zI (v : Int) + 2046 = zI ((v + 2046 : Nat) : Int) := zN_add v 2046
    have st := cpA_s M 1 0 1 2046 v (by omega)
    rw [Nat.zero_add, Nat.add_comm 2046 v] at st
    rw [LGX11_keeps_11, if_neg hc, e1, ix_l _ _ (by omega) (by omega), bnd, ix_l _ _ (by omega) (by omega), bnd, zN_add1, st]
    exact ih (v + 1) f (by omega) (by omega)
theorem g_kp52 {M : MS} {u : Nat} (hu : mF M 2 = zI u) (h8 : u < 8) : ∀ (d v f : Nat), v + d = 2046 → d < f → LGX11_keeps_52 f (zI v) (cpA M 1 (2046 * u) 0 0 v) = some (cpA M 1 (2046 * u) 0 0 2046) := by
  intro d
  induction d with
  | zero =>
    intro v f h hf
    obtain ⟨f, rfl⟩ : ∃ f', f = f' + 1 := ⟨f - 1, by omega⟩
    have hc : (2046 : Int32) ≤ zI v := (zN_le (a := 2046) (by omega) (by omega)).mpr (by omega)
    rw [LGX11_keeps_52, if_pos hc, show v = 2046 by omega]
  | succ d ih =>
    intro v f h hf
    obtain ⟨f, rfl⟩ : ∃ f', f = f' + 1 := ⟨f - 1, by omega⟩
    have hc : ¬ (2046 : Int32) ≤ zI v := fun q => by have := (zN_le (a := 2046) (by omega) (by omega)).mp q; omega
    have e1 : (2046 : Int32) * zI u + zI v = zI ((2046 * u + v : Nat) : Int) := by rw [show (2046 : Int32) = zI ((2046 : Nat) : Int) from rfl, zN_mul, zN_add]
    have st := cpA_s M 1 (2046 * u) 0 0 v (by omega)
    rw [Nat.zero_add] at st
    rw [LGX11_keeps_52, if_neg hc, ix_l _ _ (by omega) (by omega), bnd, cpA_F, hu, e1, ix_l _ _ (by omega) (by omega), bnd, zN_add1, st]
    exact ih (v + 1) f (by omega) (by omega)
theorem g_un22 {M : MS} {u : Nat} (hu : mF M 2 = zI u) (h8 : u < 8) : ∀ (d v f : Nat), v + d = 2046 → d < f → LGX11_undo_22 f (zI v) (cpA M 0 0 1 (2046 * u) v) = some (cpA M 0 0 1 (2046 * u) 2046) := by
  intro d
  induction d with
  | zero =>
    intro v f h hf
    obtain ⟨f, rfl⟩ : ∃ f', f = f' + 1 := ⟨f - 1, by omega⟩
    have hc : (2046 : Int32) ≤ zI v := (zN_le (a := 2046) (by omega) (by omega)).mpr (by omega)
    rw [LGX11_undo_22, if_pos hc, show v = 2046 by omega]
  | succ d ih =>
    intro v f h hf
    obtain ⟨f, rfl⟩ : ∃ f', f = f' + 1 := ⟨f - 1, by omega⟩
    have hc : ¬ (2046 : Int32) ≤ zI v := fun q => by have := (zN_le (a := 2046) (by omega) (by omega)).mp q; omega
    have e1 : (2046 : Int32) * zI u + zI v = zI ((2046 * u + v : Nat) : Int) := by rw [show (2046 : Int32) = zI ((2046 : Nat) : Int) from rfl, zN_mul, zN_add]
    have st := cpA_s M 0 0 1 (2046 * u) v (by omega)
    rw [Nat.zero_add] at st
    rw [LGX11_undo_22, if_neg hc, cpA_F, hu, e1, ix_l _ _ (by omega) (by omega), bnd, ix_l _ _ (by omega) (by omega), bnd, zN_add1, st]
    exact ih (v + 1) f (by omega) (by omega)
theorem g_cp {M : MS} {a b : Nat} (ha : a < 24) (hb : b < 24) (hab : a ≠ b) : ∀ (d v f : Nat), v + d = 85 → d < f → LGX11_copies_2 f (zI a) (zI b) (zI v) (cpA M 0 (85 * b) 0 (85 * a) v) = some (cpA M 0 (85 * b) 0 (85 * a) 85) := by
  intro d
  induction d with
  | zero =>
    intro v f h hf
    obtain ⟨f, rfl⟩ : ∃ f', f = f' + 1 := ⟨f - 1, by omega⟩
    have hc : (85 : Int32) ≤ zI v := (zN_le (a := 85) (by omega) (by omega)).mpr (by omega)
    rw [LGX11_copies_2, if_pos hc, show v = 85 by omega]
  | succ d ih =>
    intro v f h hf
    obtain ⟨f, rfl⟩ : ∃ f', f = f' + 1 := ⟨f - 1, by omega⟩
    have hc : ¬ (85 : Int32) ≤ zI v := fun q => by have := (zN_le (a := 85) (by omega) (by omega)).mp q; omega
    have e1 : ∀ c : Nat, (85 : Int32) * zI c + zI v = zI ((85 * c + v : Nat) : Int) := fun c => by rw [show (85 : Int32) = zI ((85 : Nat) : Int) from rfl, zN_mul, zN_add]
    have st := cpA_s M 0 (85 * b) 0 (85 * a) v (by omega)
    rw [LGX11_copies_2, if_neg hc, e1, e1, ix_l _ _ (by omega) (by omega), bnd, ix_l _ _ (by omega) (by omega), bnd, zN_add1, st]
    exact ih (v + 1) f (by omega) (by omega)
theorem g_lay {M : MS} {b : Nat} (hb : b < 24) : ∀ (d v f : Nat), v + d = 85 → d < f → LGX11_lays_2 f (zI b) (zI v) (cpA M 0 (85 * b) 3 0 v) = some (cpA M 0 (85 * b) 3 0 85) := by
  intro d
  induction d with
  | zero =>
    intro v f h hf
    obtain ⟨f, rfl⟩ : ∃ f', f = f' + 1 := ⟨f - 1, by omega⟩
    have hc : (85 : Int32) ≤ zI v := (zN_le (a := 85) (by omega) (by omega)).mpr (by omega)
    rw [LGX11_lays_2, if_pos hc, show v = 85 by omega]
  | succ d ih =>
    intro v f h hf
    obtain ⟨f, rfl⟩ : ∃ f', f = f' + 1 := ⟨f - 1, by omega⟩
    have hc : ¬ (85 : Int32) ≤ zI v := fun q => by have := (zN_le (a := 85) (by omega) (by omega)).mp q; omega
    have e1 : (85 : Int32) * zI b + zI v = zI ((85 * b + v : Nat) : Int) := by rw [show (85 : Int32) = zI ((85 : Nat) : Int) from rfl, zN_mul, zN_add]
    have st := cpA_s M 0 (85 * b) 3 0 v (by omega)
    rw [Nat.zero_add] at st
    rw [LGX11_lays_2, if_neg hc, e1, ix_l _ _ (by omega) (by omega), bnd, ix_l _ _ (by omega) (by omega), bnd, zN_add1, st]
    exact ih (v + 1) f (by omega) (by omega)
theorem PE_cp {A C : Nat → Int32} {x y : Nat} {P : PoT} (h : PE A x P) (ho : okP P) (g : ∀ j, j < 2046 → C (y + j) = A (x + j)) : PE C y P := by
  have h24 := ho.1
  refine ⟨fun k hk => ?_, (g 2040 (by omega)).trans h.2.1, fun i hi => (g (2041 + i) (by omega)).trans (h.2.2 i hi)⟩
  obtain ⟨a0, a1, a2, a3, a4, a5⟩ := h.1 k hk
  have hl := (ho.2.1 k hk).1
  exact ⟨(g _ (by omega)).trans a0, (g _ (by omega)).trans a1, (g _ (by omega)).trans a2, (g _ (by omega)).trans a3, (g _ (by omega)).trans a4, fun i hi => (g _ (by omega)).trans (a5 i hi)⟩
/-- the reference's past: hs its states, the oldest one first, c of them -/
def HM (M : MS) (hs : Nat → PoT) (c : Nat) : Prop := c ≤ 8 ∧ mF M 2 = zI c ∧ ∀ i, i < c → okP (hs i) ∧ PE (fun j => mA M 1 j) (2046 * i) (hs i)
/-- a state more: the oldest is dropped where there are eight -/
def hsK (hs : Nat → PoT) (c : Nat) (P : PoT) : Nat → PoT := if c = 8 then (fun i => if i = 7 then P else hs (i + 1)) else fun i => if i = c then P else hs i
def cK (c : Nat) : Nat := if c = 8 then 8 else c + 1
theorem g_keeps {M : MS} {P : PoT} {hs : Nat → PoT} {c : Nat} (hp : PM M P) (ho : okP P) (hh : HM M hs c) : ∃ N, g_X11_keeps M = some N ∧ HM N (hsK hs c P) (cK c) ∧ (∀ r j, r ≠ 1 → mA N r j = mA M r j) ∧ (∀ k, k ≠ 2 → mF N k = mF M k) ∧ mJ N = mJ M := by
  obtain ⟨h8, hc, hi⟩ := hh
  -- behind the dropping
  obtain ⟨M1, m1, m2, m3, m4, m5, m6⟩ : ∃ M1, (if ¬ (mF M 2) = 8 then some M else (LGX11_keeps_11 FU 0 M).bind fun x3 => some (eF x3 2 ((mF x3 2) - 1))) = some M1 ∧ mF M1 2 = zI ((cK c - 1 : Nat) : Int) ∧ (∀ i, i < cK c - 1 → okP (hsK hs c P i) ∧ PE (fun j => mA M1 1 j) (2046 * i) (hsK hs c P i)) ∧ (∀ r j, r ≠ 1 → mA M1 r j = mA M r j) ∧ (∀ k, k ≠ 2 → mF M1 k = mF M k) ∧ mJ M1 = mJ M := by
    by_cases q : c = 8
    · have e8 : mF M 2 = 8 := by rw [hc, q]; rfl
      have l := g_kp11 (M := M) 14322 0 FU (by omega) (by simp only [FU]; omega)
      rw [cpA_0] at l
      have l' : LGX11_keeps_11 FU 0 M = some (cpA M 1 0 1 2046 14322) := l
      refine ⟨eF (cpA M 1 0 1 2046 14322) 2 (zI ((7 : Nat) : Int)), ?_, ?_, fun i hi' => ?_, fun r j hr => ?_, fun k hk => ?_, rfl⟩
      · rw [if_neg (fun x => x e8), l', bnd, cpA_F, e8]; rfl
      · rw [mF_eF, if_pos rfl, cK, if_pos q]
      · have h7 : i < 7 := by rw [cK, if_pos q] at hi'; omega
        have eh : hsK hs c P i = hs (i + 1) := by rw [hsK, if_pos q]; show (if i = 7 then P else hs (i + 1)) = _; rw [if_neg (by omega)]
        rw [eh]
        obtain ⟨b1, b2⟩ := hi (i + 1) (by omega)
        refine ⟨b1, PE_cp b2 b1 (fun j hj => ?_)⟩
        rw [mA_eF, cpA_A, if_pos (by omega), show 2046 + (2046 * i + j - 0) = 2046 * (i + 1) + j by omega]
      · rw [mA_eF, cpA_A, if_neg (by omega)]
      · rw [mF_eF, if_neg hk, cpA_F]
    · have e8 : ¬ mF M 2 = 8 := by rw [hc]; exact fun x => q ((zN_eq (b := 8) (by omega) (by omega)).mp x)
      have ec : cK c - 1 = c := by rw [cK, if_neg q]; omega
      refine ⟨M, by rw [if_pos e8], by rw [ec]; exact hc, fun i hi' => ?_, fun _ _ _ => rfl, fun _ _ => rfl, rfl⟩
      rw [ec] at hi'
      have eh : hsK hs c P i = hs i := by rw [hsK, if_neg q]; show (if i = c then P else hs i) = _; rw [if_neg (by omega)]
      rw [eh]
      exact hi i hi'
  have hcK : 1 ≤ cK c ∧ cK c ≤ 8 := by unfold cK; split <;> omega
  have l := g_kp52 m2 (by omega) 2046 0 FU (by omega) (by simp only [FU]; omega)
  rw [cpA_0] at l
  have l' : LGX11_keeps_52 FU 0 M1 = some (cpA M1 1 (2046 * (cK c - 1)) 0 0 2046) := l
  refine ⟨eF (cpA M1 1 (2046 * (cK c - 1)) 0 0 2046) 2 (zI ((cK c : Nat) : Int)), ?_, ⟨hcK.2, ?_, fun i hi' => ?_⟩, fun r j hr => ?_, fun k hk => ?_, m6⟩
  · rw [g_X11_keeps, m1, bnd, l', bnd, cpA_F, m2, zN_add1]; congr 4; omega
  · rw [mF_eF, if_pos rfl]
  · by_cases q : i = cK c - 1
    · have e : hsK hs c P i = P := by
        rw [hsK]; split
        · rename_i z; rw [cK, if_pos z] at q; show (if i = 7 then P else hs (i + 1)) = P; rw [if_pos (by omega)]
        · rename_i z; rw [cK, if_neg z] at q; show (if i = c then P else hs i) = P; rw [if_pos (by omega)]
      rw [e]
      refine ⟨ho, PE_cp (A := fun j => mA M 0 j) (x := 0) hp ho (fun j hj => ?_)⟩
      rw [mA_eF, cpA_A, if_pos (by omega), m4 0 _ (by omega), show 0 + (2046 * i + j - 2046 * (cK c - 1)) = 0 + j by rw [q]; omega]
    · obtain ⟨b1, b2⟩ := m3 i (by omega)
      refine ⟨b1, PE_cp b2 b1 (fun j hj => ?_)⟩
      rw [mA_eF, cpA_A, if_neg (by omega)]
  · rw [mA_eF, cpA_A, if_neg (by omega), m4 r j hr]
  · rw [mF_eF, if_neg hk, cpA_F, m5 k hk]
theorem g_undo0 {M : MS} {hs : Nat → PoT} (hh : HM M hs 0) : g_X11_undo M = some (-3, M) := by
  have e : mF M 2 = 0 := hh.2.1
  rw [g_X11_undo, if_neg (fun x => x e)]
theorem g_undo {M : MS} {hs : Nat → PoT} {c : Nat} (hh : HM M hs (c + 1)) : ∃ N, g_X11_undo M = some (zI c, N) ∧ PM N (hs c) ∧ okP (hs c) ∧ HM N hs c ∧ (∀ r j, r ≠ 0 → mA N r j = mA M r j) ∧ (∀ k, k ≠ 2 → mF N k = mF M k) ∧ mJ N = mJ M := by
  obtain ⟨h8, hc, hi⟩ := hh
  have e : ¬ mF M 2 = 0 := by rw [hc]; exact fun x => by have := (zN_eq (b := 0) (by omega) (by omega)).mp x; omega
  have e1 : mF M 2 - 1 = zI (c : Int) := by rw [hc, zN_sub1 (by omega)]; rfl
  have hu : mF (eF M 2 (zI (c : Int))) 2 = zI (c : Int) := by rw [mF_eF, if_pos rfl]
  have l := g_un22 hu (by omega) 2046 0 FU (by omega) (by simp only [FU]; omega)
  rw [cpA_0] at l
  have l' : LGX11_undo_22 FU 0 (eF M 2 (zI (c : Int))) = some (cpA (eF M 2 (zI (c : Int))) 0 0 1 (2046 * c) 2046) := l
  obtain ⟨b1, b2⟩ := hi c (by omega)
  refine ⟨cpA (eF M 2 (zI (c : Int))) 0 0 1 (2046 * c) 2046, ?_, ?_, b1, ⟨by omega, ?_, fun i hi' => ?_⟩, fun r j hr => ?_, fun k hk => ?_, rfl⟩
  · rw [g_X11_undo, if_pos e, e1, l', bnd, cpA_F, hu]
  · refine PE_cp b2 b1 (fun j hj => ?_)
    rw [cpA_A, if_pos (by omega), mA_eF, show 2046 * c + (0 + j - 0) = 2046 * c + j by omega]
  · rw [cpA_F, hu]
  · obtain ⟨d1, d2⟩ := hi i (by omega)
    refine ⟨d1, PE_cp d2 d1 (fun j hj => ?_)⟩
    rw [cpA_A, if_neg (by omega), mA_eF]
  · rw [cpA_A, if_neg (by omega), mA_eF]
  · rw [cpA_F, mF_eF, if_neg hk]
/-- line k of the poem is l -/
def putL (P : PoT) (k : Nat) (l : LnT) : PoT := (fun i => if i = k then l else P.1 i, P.2.1, P.2.2)
/-- line k's numbers are those of l -/
def LiE (A : Nat → Int32) (x : Nat) (l : LnT) : Prop := A x = zI (nLen l) ∧ A (x + 1) = zI (nCnt l) ∧ A (x + 2) = zI (nSt l) ∧ A (x + 3) = zI (nHf l) ∧ A (x + 4) = zI (nLa l) ∧ ∀ i, i < nLen l → A (x + 5 + i) = nB l i
/-- what has been read is a line -/
def lnT (T : Nat → Int32) (n : Nat) : LnT := (lenP T n, cntP T n, ltP T n, sgP T 62 n, anP T 126 n, anP T 47 n, byP (fun _ => 0) T n, lnP T n)
theorem LiE_read {L T : Nat → Int32} {n : Nat} (hn : n ≤ 80) (h : ∀ k, k < 85 → L k = enP (fun _ => 0) T n k) : LiE L 0 (lnT T n) := by
  have hl := (lenP_le T n).1
  refine ⟨h 0 (by omega), h 1 (by omega), h 2 (by omega), h 3 (by omega), h 4 (by omega), fun i hi => ?_⟩
  have hi' : i < lenP T n := hi
  rw [h (0 + 5 + i) (by omega)]
  simp only [enP, EN]
  rw [if_neg (by omega), if_neg (by omega), if_neg (by omega), if_neg (by omega), if_neg (by omega), show 0 + 5 + i - 5 = i by omega]
  rfl
theorem PE_put {A C : Nat → Int32} {P : PoT} {k : Nat} {l : LnT} (h : PE A 0 P) (ho : okP P) (hl : nLen l ≤ 80) (g : LiE C (85 * k) l) (gc : ∀ j, ¬ (85 * k ≤ j ∧ j < 85 * k + 85) → C j = A j) (hk : k < 24) : PE C 0 (putL P k l) := by
  refine ⟨fun i hi => ?_, ?_, fun i hi => ?_⟩
  · by_cases q : i = k
    · subst q
      have e : (putL P i l).1 i = l := if_pos rfl
      rw [e]
      simp only [Nat.zero_add]
      exact g
    · have e : (putL P k l).1 i = P.1 i := if_neg q
      rw [e]
      have hi' : i < P.2.1 := hi
      have hle := (ho.2.1 i hi').1
      obtain ⟨a0, a1, a2, a3, a4, a5⟩ := h.1 i hi'
      simp only [Nat.zero_add] at *
      refine ⟨(gc _ (by omega)).trans a0, (gc _ (by omega)).trans a1, (gc _ (by omega)).trans a2, (gc _ (by omega)).trans a3, (gc _ (by omega)).trans a4, fun j hj => (gc _ (by omega)).trans (a5 j hj)⟩
  · exact (gc _ (by omega)).trans h.2.1
  · exact (gc _ (by omega)).trans (h.2.2 i hi)
/-- the m numbers after line q has been copied to p -/
theorem g_copies {M : MS} {a b : Nat} (ha : a < 24) (hb : b < 24) (hab : a ≠ b) : g_X11_copies M (zI a) (zI b) = some (cpA M 0 (85 * b) 0 (85 * a) 85) := by
  have l := g_cp (M := M) ha hb hab 85 0 FU (by omega) (by simp only [FU]; omega)
  rw [cpA_0] at l
  have l' : LGX11_copies_2 FU (zI a) (zI b) 0 M = _ := l
  rw [g_X11_copies, l', bnd]
theorem g_lays {M : MS} {b : Nat} (hb : b < 24) : g_X11_lays M (zI b) = some (cpA M 0 (85 * b) 3 0 85) := by
  have l := g_lay (M := M) hb 85 0 FU (by omega) (by simp only [FU]; omega)
  rw [cpA_0] at l
  have l' : LGX11_lays_2 FU (zI b) 0 M = _ := l
  rw [g_X11_lays, l', bnd]
theorem LiE_cp {A C : Nat → Int32} {x y : Nat} {l : LnT} (h : LiE A x l) (hl : nLen l ≤ 80) (g : ∀ j, j < 85 → C (y + j) = A (x + j)) : LiE C y l := by
  obtain ⟨a0, a1, a2, a3, a4, a5⟩ := h
  refine ⟨(g 0 (by omega)).trans a0, (g 1 (by omega)).trans a1, (g 2 (by omega)).trans a2, (g 3 (by omega)).trans a3, (g 4 (by omega)).trans a4, fun i hi => ?_⟩
  have := g (5 + i) (by omega)
  rw [← Nat.add_assoc, ← Nat.add_assoc] at this
  exact this.trans (a5 i hi)
theorem PE_li {A : Nat → Int32} {P : PoT} {k : Nat} (h : PE A 0 P) (hk : k < P.2.1) : LiE A (85 * k) (P.1 k) := by
  have := h.1 k hk
  simp only [Nat.zero_add] at this
  exact this
/-- lines are put over one by one: PM keeps with putL -/
theorem PM_put {M : MS} {P : PoT} {k r0 x : Nat} {l : LnT} (h : PM M P) (ho : okP P) (hk : k < 24) (hl : nLen l ≤ 80) (g : LiE (fun j => mA M r0 j) x l) : PM (cpA M 0 (85 * k) r0 x 85) (putL P k l) := by
  refine PE_put (A := fun j => mA M 0 j) h ho hl (LiE_cp g hl (fun j hj => ?_)) (fun j hj => ?_) hk
  · show mA (cpA M 0 (85 * k) r0 x 85) 0 (85 * k + j) = mA M r0 (x + j)
    rw [cpA_A, if_pos (by omega), show x + (85 * k + j - 85 * k) = x + j by omega]
  · show mA (cpA M 0 (85 * k) r0 x 85) 0 j = mA M 0 j
    rw [cpA_A, if_neg (by omega)]
/-- only the lines' numbers have changed -/
def FLn (M N : MS) : Prop := (∀ j, 2040 ≤ j → mA N 0 j = mA M 0 j) ∧ (∀ r j, r ≠ 0 → mA N r j = mA M r j) ∧ (∀ k, mF N k = mF M k) ∧ mJ N = mJ M
theorem FLn_refl (M : MS) : FLn M M := ⟨fun _ _ => rfl, fun _ _ _ => rfl, fun _ => rfl, rfl⟩
theorem FLn_trans {M N O : MS} (h : FLn M N) (g : FLn N O) : FLn M O := ⟨fun j hj => (g.1 j hj).trans (h.1 j hj), fun r j hr => (g.2.1 r j hr).trans (h.2.1 r j hr), fun k => (g.2.2.1 k).trans (h.2.2.1 k), g.2.2.2.trans h.2.2.2⟩
theorem FLn_cp {M : MS} {k r0 x : Nat} (hk : k < 24) : FLn M (cpA M 0 (85 * k) r0 x 85) := ⟨fun j hj => by rw [cpA_A, if_neg (by omega)], fun r j hr => by rw [cpA_A, if_neg (by omega)], fun _ => rfl, rfl⟩
def LiA (M : MS) (i : Nat) (l : LnT) : Prop := LiE (fun j => mA M 0 j) (85 * i) l
theorem LiA_cp {M : MS} {k r0 x i : Nat} {l : LnT} (h : LiA M i l) (hl : nLen l ≤ 80) (hi : i ≠ k) : LiA (cpA M 0 (85 * k) r0 x 85) i l :=
  LiE_cp h hl (fun j hj => by show mA (cpA M 0 (85 * k) r0 x 85) 0 (85 * i + j) = mA M 0 (85 * i + j); rw [cpA_A, if_neg (by omega)])
theorem LiA_to {M : MS} {k i : Nat} {l : LnT} (h : LiA M i l) (hl : nLen l ≤ 80) : LiA (cpA M 0 (85 * k) 0 (85 * i) 85) k l :=
  LiE_cp h hl (fun j hj => by show mA (cpA M 0 (85 * k) 0 (85 * i) 85) 0 (85 * k + j) = mA M 0 (85 * i + j); rw [cpA_A, if_pos (by omega), show 85 * i + (85 * k + j - 85 * k) = 85 * i + j by omega])
theorem g_ins {f : Nat → LnT} {p n : Nat} (hn : n < 24) (hf : ∀ i, nLen (f i) ≤ 80 ∨ n ≤ i) : ∀ (d v : Nat) (M : MS) (k : Nat), v = p + d → v ≤ n → (∀ i, i < v → LiA M i (f i)) → (∀ i, v < i → i ≤ n → LiA M i (f (i - 1))) → d < k → ∃ N, LGX11_insert_69 k (zI p) (zI v) M = some N ∧ (∀ i, i < p → LiA N i (f i)) ∧ (∀ i, p < i → i ≤ n → LiA N i (f (i - 1))) ∧ FLn M N := by
  intro d
  induction d with
  | zero =>
    intro v M k h1 h2 h3 h4 h5
    obtain ⟨k, rfl⟩ : ∃ k', k = k' + 1 := ⟨k - 1, by omega⟩
    have e : v = p := by omega
    subst e
    exact ⟨M, by rw [LGX11_insert_69, if_pos ((zN_le (by omega) (by omega)).mpr (by omega))], h3, h4, FLn_refl M⟩
  | succ d ih =>
    intro v M k h1 h2 h3 h4 h5
    obtain ⟨k, rfl⟩ : ∃ k', k = k' + 1 := ⟨k - 1, by omega⟩
    have e1 : zI (v : Int) - 1 = zI ((v - 1 : Nat) : Int) := zN_sub1 (by omega)
    have e2 : zI (v : Int) + (-1) = zI ((v - 1 : Nat) : Int) := by
      rw [show ((v - 1 : Nat) : Int) = (v : Int) + (-1) by omega]; rw [← zI_add]; rfl
    obtain ⟨N, n1, n2, n3, n4⟩ := ih (v - 1) (cpA M 0 (85 * v) 0 (85 * (v - 1)) 85) k (by omega) (by omega) (fun i hi => LiA_cp (h3 i (by omega)) (by rcases hf i with x | x <;> omega) (by omega)) (fun i h6 h7 => by
      by_cases q : i = v
      · subst q; exact LiA_to (h3 (i - 1) (by omega)) (by rcases hf (i - 1) with x | x <;> omega)
      · exact LiA_cp (h4 i (by omega) h7) (by rcases hf (i - 1) with x | x <;> omega) q) (by omega)
    refine ⟨N, ?_, n2, n3, FLn_trans (FLn_cp (by omega)) n4⟩
    rw [LGX11_insert_69, if_neg (fun x => by have := (zN_le (by omega) (by omega)).mp x; omega), e1, g_copies (by omega) (by omega) (by omega), bnd, e2, n1]
/-- the reference: poem, past, text -/
def MI (M : MS) (P : PoT) (hs : Nat → PoT) (c : Nat) (T : Nat → Int32) (n : Nat) : Prop := PM M P ∧ okP P ∧ HM M hs c ∧ MT M T n
theorem HM_c {M N : MS} {hs : Nat → PoT} {c : Nat} (h : HM M hs c) (g1 : ∀ j, mA N 1 j = mA M 1 j) (g2 : mF N 2 = mF M 2) : HM N hs c := by
  obtain ⟨h8, hc, hi⟩ := h
  refine ⟨h8, g2.trans hc, fun i hi' => ?_⟩
  obtain ⟨a, b⟩ := hi i hi'
  exact ⟨a, PE_cp b a (fun j _ => g1 _)⟩
theorem MT_c {M N : MS} {T : Nat → Int32} {n : Nat} (h : MT M T n) (g1 : ∀ j, mA N 2 j = mA M 2 j) (g2 : mF N 4 = mF M 4) : MT N T n :=
  ⟨h.1, g2.trans h.2.1, fun j hj => (g1 j).trans (h.2.2.1 j hj), h.2.2.2⟩
theorem MI_rd {M : MS} {P : PoT} {hs : Nat → PoT} {c : Nat} {T : Nat → Int32} {n : Nat} (h : MI M P hs c T n) (p f : Int32) (L : Nat → Int32) : MI (rd M p f L) P hs c T n :=
  ⟨PM_c h.1 (fun _ => rfl), h.2.1, HM_c h.2.2.1 (fun _ => rfl) rfl, MT_c h.2.2.2 (fun _ => rfl) rfl⟩
theorem MI_FA {M N : MS} {P : PoT} {hs : Nat → PoT} {c : Nat} {T : Nat → Int32} {n : Nat} (h : MI M P hs c T n) (g : FA M N) : MI N P hs c T n :=
  ⟨PM_c h.1 (fun j => g.1 0 j (by omega)), h.2.1, HM_c h.2.2.1 (fun j => g.1 1 j (by omega)) (g.2.1 2 (by omega) (by omega)), MT_c h.2.2.2 (fun j => g.1 2 j (by omega)) (g.2.1 4 (by omega) (by omega))⟩
/-- line l put in before line p -/
def insP (P : PoT) (p : Nat) (l : LnT) : PoT := (fun i => if i < p then P.1 i else if i = p then l else P.1 (i - 1), P.2.1 + 1, P.2.2)
theorem PE_of {A : Nat → Int32} {P : PoT} (h1 : ∀ i, i < P.2.1 → LiE A (85 * i) (P.1 i)) (h2 : A 2040 = zI P.2.1) (h3 : ∀ i, i < 5 → A (2041 + i) = zI (P.2.2 i)) : PE A 0 P := by
  refine ⟨fun k hk => ?_, ?_, fun i hi => ?_⟩
  · simp only [Nat.zero_add]; exact h1 k hk
  · simpa only [Nat.zero_add] using h2
  · simpa only [Nat.zero_add] using h3 i hi
theorem z_in (z : Int) (n : Nat) (h1 : -2147483648 ≤ z) (h2 : z ≤ 2147483647) (hn : n ≤ 100000) (M : MS) : g_X11_in M (zI z) 0 (zI n) = some (if 0 ≤ z ∧ z ≤ n then 1 else 0) := by
  rw [g_in]
  have e : (0 ≤ zI z ∧ zI z ≤ zI n) ↔ (0 ≤ z ∧ z ≤ n) := by
    rw [show (0 : Int32) = zI 0 from rfl, zI_le (by omega) (by omega) (by omega) (by omega), zI_le (by omega) (by omega) (by omega) (by omega)]
  by_cases q : 0 ≤ z ∧ z ≤ n
  · rw [if_pos (e.mpr q), if_pos q]
  · rw [if_neg (fun x => q (e.mp x)), if_neg q]
theorem Flt_bd (T : Nat → Int32) (n : Nat) (hn : n ≤ 80) : -1 ≤ Flt T n ∧ Flt T n ≤ 100 := by
  have h := i_rng T n
  unfold Flt
  cases hw : wdE T n n (i2P T n) with
  | inl q =>
    simp only []
    split
    · split <;> omega
    · omega
  | inr q =>
    simp only []
    have : ∀ d p, p ≤ n → ∀ q, wdE T n d p = .inr q → q ≤ n := by
      intro d
      induction d with
      | zero => intro p hp q h; cases h
      | succ d ih =>
        intro p hp q h
        rw [wdE] at h
        split at h
        · split at h
          · rename_i a b; cases h
            have h1 := sc_spec isl T n n p (by omega) hp
            omega
          · have h1 := sc_spec isl T n n p (by omega) hp
            have h2 := sc_spec bls T n n _ (by omega) h1.2.1
            exact ih _ h2.2.1 q h
        · cases h
    have := this n _ h.1 q hw
    omega
theorem sg_no {T : Nat → Int32} {c : Int32} : ∀ p q, p ≤ q → (∀ j, p ≤ j → j < q → T j ≠ c) → sgP T c q = sgP T c p := by
  intro p q h
  induction h with
  | refl => intro _; rfl
  | step h ih =>
    rename_i m
    intro hj
    rw [sgP, if_neg (hj m h (by omega)), ih (fun j j1 j2 => hj j j1 (by omega))]
theorem st_sg {T : Nat → Int32} {n : Nat} : ∀ k p, p ≤ n → sgP T 62 (stE T n k p) ≤ sgP T 62 p + k := by
  intro k
  induction k with
  | zero => intro p hp; exact Nat.le_refl _
  | succ k ih =>
    intro p hp
    by_cases q : TX T n p = 62
    · obtain ⟨q1, q2⟩ := TX_lt q (by decide)
      have hs := sc_spec bls T n n (p + 1) (by omega) (by omega)
      have h1 := ih (sc bls T n (p + 1)) hs.2.1
      have h2 : sgP T 62 (sc bls T n (p + 1)) = sgP T 62 (p + 1) := sg_no _ _ hs.1 (fun j j1 j2 => by rw [sc_rng (by omega) j1 j2]; decide)
      have h3 : sgP T 62 (p + 1) = sgP T 62 p + 1 := by rw [sgP, if_pos q2]
      rw [stE, if_pos q]; omega
    · rw [stE, if_neg q]; omega
theorem cnt_mono {T : Nat → Int32} {p q : Nat} (h : p ≤ q) : cntP T p ≤ cntP T q := by
  induction h with
  | refl => exact Nat.le_refl _
  | step _ ih => rw [cntP]; split <;> omega
theorem lnT_ok {T : Nat → Int32} {n : Nat} (hn : n ≤ 80) (hf : Flt T n = -1) : okL (lnT T n) := by
  obtain ⟨r1, r2, r3, r4, r5⟩ := i_rng T n
  have hlen := (lenP_le T n).1
  have hh := (cnt_half T n).1
  have an : ∀ c i, anP T c i ≤ 1 := by
    intro c i
    induction i with
    | zero => exact Nat.zero_le _
    | succ i ih => rw [anP]; split <;> omega
  rw [Flt] at hf
  cases hw : wdE T n n (i2P T n) with
  | inr q => rw [hw] at hf; simp only [] at hf; omega
  | inl q =>
    rw [hw] at hf
    simp only [] at hf
    by_cases hl : isl (TX T n (i2P T n)) = true
    · rw [if_pos hl] at hf
      have hq : ¬ tk T n 47 q < n := fun x => by rw [if_pos x] at hf; omega
      obtain ⟨l1, l2⟩ := isl_TX hl
      obtain ⟨w1, w2⟩ := wd_rng n (i2P T n) r1 q hw
      have hqn : q ≤ n := by
        by_cases z : q ≤ n
        · exact z
        · exfalso
          have e := w2 n (by omega) (by omega)
          have : ∀ d p, p ≤ n → ∀ q, wdE T n d p = .inl q → q ≤ n := by
            intro d
            induction d with
            | zero => intro p hp q h; cases h; exact hp
            | succ d ih =>
              intro p hp q h
              rw [wdE] at h
              split at h
              · split at h
                · cases h
                · have h1 := sc_spec isl T n n p (by omega) hp
                  have h2 := sc_spec bls T n n _ (by omega) h1.2.1
                  exact ih _ h2.2.1 q h
              · cases h; exact hp
          exact z (this n _ r1 q hw)
      have tl := tk_le (T := T) (n := n) (p := q) (c := 47) (by decide) hqn
      have hc : 0 < cntP T n := Nat.lt_of_lt_of_le (cnt_pos _ l2) (cnt_mono (by omega))
      have s1 : sgP T 62 (i1P T n) = 0 := (sg_no 0 _ (Nat.zero_le _) (fun j _ j2 => by rcases r3 j j2 with e | e <;> rw [e] <;> decide)).trans rfl
      have s2 : sgP T 62 (i2P T n) ≤ sgP T 62 (i1P T n) + 5 := st_sg 5 (i1P T n) r2
      have s3 : sgP T 62 q = sgP T 62 (i2P T n) := sg_no _ _ w1 (fun j j1 j2 => by
        rcases w2 j j1 j2 with e | e
        · rw [e]; decide
        · intro x; rw [x] at e; exact absurd e (by decide))
      have s4 : sgP T 62 n = sgP T 62 q := sg_no _ _ hqn (fun j j1 j2 => by rcases tk_rng (T := T) (n := n) (p := q) (c := 47) (by decide) hqn j1 (by omega) with e | e <;> rw [e] <;> decide)
      exact ⟨by show lenP T n ≤ 80; omega, hc, by show cntP T n ≤ 40; omega, WL_P _ T n, by show sgP T 62 n ≤ 5; omega, an 126 n, an 47 n⟩
    · rw [if_neg hl] at hf; omega
theorem m1_Flt {T : Nat → Int32} {n : Nat} (hn : n ≤ 80) : (zI (Flt T n) = -1) ↔ Flt T n = -1 := by
  have h := Flt_bd T n hn
  rw [show (-1 : Int32) = zI (-1) from rfl, zI_eq (by omega) (by omega) (by omega) (by omega)]
theorem okP_ins {P : PoT} (ho : okP P) (h : P.2.1 < 24) {p : Nat} (hp : p ≤ P.2.1) {l : LnT} (hl : okL l) : okP (insP P p l) := by
  refine ⟨by show P.2.1 + 1 ≤ 24; omega, fun k hk => ?_, ho.2.2⟩
  have hk' : k < P.2.1 + 1 := hk
  show okL (if k < p then P.1 k else if k = p then l else P.1 (k - 1))
  split
  · exact ho.2.1 k (by omega)
  · split
    · exact hl
    · exact ho.2.1 (k - 1) (by omega)
theorem g_insert {M : MS} {P : PoT} {hs : Nat → PoT} {c : Nat} {T : Nat → Int32} {n : Nat} (h : MI M P hs c T n) (z : Int) (z1 : -2147483648 ≤ z) (z2 : z ≤ 2147483647) :
    ∃ r N, g_X11_insert M (zI z) = some (r, N) ∧
      ((¬ (0 ≤ z ∧ z ≤ P.2.1) → r = -2 ∧ MI N P hs c T n) ∧
       (0 ≤ z ∧ z ≤ P.2.1 → Flt T n ≠ -1 → r = zI (-2000 - Flt T n) ∧ MI N P hs c T n) ∧
       (0 ≤ z ∧ z ≤ P.2.1 → Flt T n = -1 → P.2.1 = 24 → r = -4 ∧ MI N P hs c T n) ∧
       (0 ≤ z ∧ z ≤ P.2.1 → Flt T n = -1 → P.2.1 < 24 → r = zI (P.2.1 + 1 : Nat) ∧ MI N (insP P z.toNat (lnT T n)) (hsK hs c P) (cK c) T n)) := by
  obtain ⟨hp, ho, hh, ht⟩ := id h
  have h24 := ho.1
  have hn := ht.1
  have h40 : ix (2040 : Int32) 2046 = some 2040 := rfl
  rw [g_X11_insert, h40, bnd, PM_n hp, z_in z P.2.1 z1 z2 (by omega), bnd]
  by_cases q : 0 ≤ z ∧ z ≤ P.2.1
  · rw [if_pos q, if_pos (by decide)]
    obtain ⟨p', L', r1, r2⟩ := g_readsLine ht
    rw [r1, bnd, rd_6]
    have hR := MI_rd h (zI p') (zI (Flt T n)) L'
    by_cases f : Flt T n = -1
    · rw [if_pos ((m1_Flt hn).mpr f), bnd, PM_n hR.1]
      by_cases e : P.2.1 = 24
      · have e24 : zI (P.2.1 : Int) = 24 := by rw [e]; rfl
        rw [if_neg (fun x => x e24)]
        exact ⟨_, _, rfl, fun x => absurd q x, fun _ x => absurd f x, fun _ _ _ => ⟨rfl, hR⟩, fun _ _ x => by omega⟩
      · have e24 : ¬ zI (P.2.1 : Int) = 24 := fun x => e ((zN_eq (b := 24) (by omega) (by omega)).mp x)
        obtain ⟨N1, k1, k2, k3, k4, k5⟩ := g_keeps hR.1 ho hR.2.2.1
        obtain ⟨p, rfl⟩ : ∃ p : Nat, z = p := ⟨z.toNat, by omega⟩
        have hpn : p ≤ P.2.1 := by omega
        have hP1 : PM N1 P := PM_c hR.1 (fun j => k3 0 j (by decide))
        obtain ⟨N2, i1, i2, i3, i4⟩ := g_ins (f := P.1) (p := p) (n := P.2.1) (by omega) (fun i => by
          by_cases x : i < P.2.1
          · left; exact (ho.2.1 i x).1
          · right; omega) (P.2.1 - p) P.2.1 N1 FU (by omega) (by omega) (fun i hi => PE_li hP1 hi) (fun i h1 h2 => by omega) (by simp only [FU]; omega)
        have hok := lnT_ok hn f
        have hL : LiE (fun j => mA N2 3 j) 0 (lnT T n) := by
          refine LiE_cp (A := L') (x := 0) (LiE_read hn (r2 f)) hok.1 (fun j hj => ?_)
          show mA N2 3 (0 + j) = L' (0 + j)
          rw [i4.2.1 3 _ (by decide), k3 3 _ (by decide), rd_A3]
        have c40 : mA (cpA N2 0 (85 * p) 3 0 85) 0 2040 = zI (P.2.1 : Int) := by
          rw [cpA_A, if_neg (by omega), i4.1 _ (by omega)]; exact PM_n hP1
        rw [if_pos e24, k1, bnd, bnd, PM_n hP1, i1, bnd, g_lays (by omega), bnd, bnd, bnd, bnd, c40, zN_add1]
        refine ⟨_, _, rfl, fun x => absurd q x, fun _ x => absurd f x, fun _ _ x => absurd x e, fun _ _ _ => ⟨?_, ?_, okP_ins ho (by omega) (by omega) hok, ?_, ?_⟩⟩
        · rw [mA_eA, if_pos ⟨rfl, rfl⟩]
        · refine PE_of (fun i hi => ?_) ?_ (fun i hi => ?_)
          · have hi' : i < P.2.1 + 1 := hi
            have up : ∀ l : LnT, nLen l ≤ 80 → LiA (cpA N2 0 (85 * p) 3 0 85) i l → LiE (fun j => mA (eA (cpA N2 0 (85 * p) 3 0 85) 0 2040 (zI ((P.2.1 + 1 : Nat) : Int))) 0 j) (85 * i) l := fun l hl hh => LiE_cp hh hl (fun j hj => by rw [mA_eA, if_neg (by omega)])
            show LiE _ _ (if i < p then P.1 i else if i = p then lnT T n else P.1 (i - 1))
            by_cases a : i < p
            · rw [if_pos a]
              have b := (ho.2.1 i (by omega)).1
              exact up _ b (LiA_cp (i2 i a) b (by omega))
            · rw [if_neg a]
              by_cases d : i = p
              · rw [if_pos d]
                refine up _ hok.1 (LiE_cp hL hok.1 (fun j hj => ?_))
                show mA (cpA N2 0 (85 * p) 3 0 85) 0 (85 * i + j) = mA N2 3 (0 + j)
                rw [cpA_A, if_pos (by omega), show 0 + (85 * i + j - 85 * p) = 0 + j by omega]
              · rw [if_neg d]
                have b := (ho.2.1 (i - 1) (by omega)).1
                exact up _ b (LiA_cp (i3 i (by omega) (by omega)) b (by omega))
          · rw [mA_eA, if_pos ⟨rfl, rfl⟩]; rfl
          · rw [mA_eA, if_neg (by omega), cpA_A, if_neg (by omega), i4.1 _ (by omega)]; exact PM_s hP1 hi
        · exact HM_c k2 (fun j => by rw [mA_eA, if_neg (by omega), cpA_A, if_neg (by omega), i4.2.1 1 _ (by decide)]) (by rw [mF_eA, cpA_F, i4.2.2.1])
        · exact MT_c ht (fun j => by rw [mA_eA, if_neg (by omega), cpA_A, if_neg (by omega), i4.2.1 2 _ (by decide), k3 2 _ (by decide), rd_A2]) (by rw [mF_eA, cpA_F, i4.2.2.1, k4 4 (by decide), rd_4])
    · rw [if_neg (fun x => f ((m1_Flt hn).mp x))]
      refine ⟨_, _, rfl, fun x => absurd q x, fun _ _ => ⟨?_, hR⟩, fun _ x => absurd x f, fun _ x => absurd x f⟩
      rw [show (-2000 : Int32) = zI (-2000) from rfl, zI_sub]
  · rw [if_neg q, if_neg (by decide)]
    exact ⟨_, _, rfl, fun _ => ⟨rfl, h⟩, fun x => absurd x q, fun x => absurd x q, fun x => absurd x q⟩

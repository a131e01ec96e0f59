/-- n numbers of array r0 from x on, put into array r1 from y on -/
def cpA (M : MS) (r1 y r0 x n : Nat) : MS := (M.1, fun r j => if r = r1 ∧ y ≤ j ∧ j < y + n then M.2.1 r0 (x + (j - y)) else M.2.1 r j, M.2.2)
theorem cpA_0 (M : MS) (r1 y r0 x : Nat) : cpA M r1 y r0 x 0 = M := by
  simp only [cpA]
  have : (fun r j => if r = r1 ∧ y ≤ j ∧ j < y + 0 then M.2.1 r0 (x + (j - y)) else M.2.1 r j) = M.2.1 := by
    funext r j; rw [if_neg (by omega)]
  rw [this]
theorem cpA_A (M : MS) (r1 y r0 x n r j : Nat) : mA (cpA M r1 y r0 x n) r j = if r = r1 ∧ y ≤ j ∧ j < y + n then mA M r0 (x + (j - y)) else mA M r j := rfl
theorem cpA_F (M : MS) (r1 y r0 x n k : Nat) : mF (cpA M r1 y r0 x n) k = mF M k := rfl
theorem cpA_s (M : MS) (r1 y r0 x n : Nat) (h : r0 ≠ r1 ∨ x + n < y ∨ y + n ≤ x + n) : eA (cpA M r1 y r0 x n) r1 (y + n) (mA (cpA M r1 y r0 x n) r0 (x + n)) = cpA M r1 y r0 x (n + 1) := by
  rw [cpA_A, if_neg (by omega)]
  simp only [eA, cpA, Prod.mk.injEq, true_and, and_true]
  funext r j
  simp only [up2]
  by_cases q : r = r1 ∧ j = y + n
  · rw [if_pos q, if_pos (by omega), show x + (j - y) = x + n by omega]; rfl
  · rw [if_neg q]
    by_cases z : r = r1 ∧ y ≤ j ∧ j < y + n
    · rw [if_pos z, if_pos (by omega)]
    · rw [if_neg z, if_neg (by omega)]
theorem zN_mul (a b : Nat) : zI (a : Int) * zI b = zI ((a * b : Nat) : Int) := by rw [zI_mul]; congr 1
theorem g_kp11 {M : MS} : ∀ (d v f : Nat), v + d = 14322 → d < f → LGX11_keeps_11 f (zI v) (cpA M 1 0 1 2046 v) = some (cpA M 1 0 1 2046 14322) := by
  intro d
  induction d with
  | zero =>
    intro v f h hf
    obtain ⟨f, rfl⟩ : ∃ f', f = f' + 1 := ⟨f - 1, by omega⟩
    have hc : (14322 : Int32) ≤ zI v := (zN_le (a := 14322) (by omega) (by omega)).mpr (by omega)
    rw [LGX11_keeps_11, if_pos hc, show v = 14322 by omega]
  | succ d ih =>
    intro v f h hf
    obtain ⟨f, rfl⟩ : ∃ f', f = f' + 1 := ⟨f - 1, by omega⟩
    have hc : ¬ (14322 : Int32) ≤ zI v := fun q => by have := (zN_le (a := 14322) (by omega) (by omega)).mp q; omega
    have e1 : zI (v : Int) + 2046 = zI ((v + 2046 : Nat) : Int) := zN_add v 2046
    have st := cpA_s M 1 0 1 2046 v (by omega)
    rw [Nat.zero_add, Nat.add_comm 2046 v] at st
    rw [LGX11_keeps_11, if_neg hc, e1, ix_l _ _ (by omega) (by omega), bnd, ix_l _ _ (by omega) (by omega), bnd, zN_add1, st]
    exact ih (v + 1) f (by omega) (by omega)
theorem g_kp52 {M : MS} {u : Nat} (hu : mF M 2 = zI u) (h8 : u < 8) : ∀ (d v f : Nat), v + d = 2046 → d < f → LGX11_keeps_52 f (zI v) (cpA M 1 (2046 * u) 0 0 v) = some (cpA M 1 (2046 * u) 0 0 2046) := by
  intro d
  induction d with
  | zero =>
    intro v f h hf
    obtain ⟨f, rfl⟩ : ∃ f', f = f' + 1 := ⟨f - 1, by omega⟩
    have hc : (2046 : Int32) ≤ zI v := (zN_le (a := 2046) (by omega) (by omega)).mpr (by omega)
    rw [LGX11_keeps_52, if_pos hc, show v = 2046 by omega]
  | succ d ih =>
    intro v f h hf
    obtain ⟨f, rfl⟩ : ∃ f', f = f' + 1 := ⟨f - 1, by omega⟩
    have hc : ¬ (2046 : Int32) ≤ zI v := fun q => by have := (zN_le (a := 2046) (by omega) (by omega)).mp q; omega
    have e1 : (2046 : Int32) * zI u + zI v = zI ((2046 * u + v : Nat) : Int) := by rw [show (2046 : Int32) = zI ((2046 : Nat) : Int) from rfl, zN_mul, zN_add]
    have st := cpA_s M 1 (2046 * u) 0 0 v (by omega)
    rw [Nat.zero_add] at st
    rw [LGX11_keeps_52, if_neg hc, ix_l _ _ (by omega) (by omega), bnd, cpA_F, hu, e1, ix_l _ _ (by omega) (by omega), bnd, zN_add1, st]
    exact ih (v + 1) f (by omega) (by omega)
theorem g_un22 {M : MS} {u : Nat} (hu : mF M 2 = zI u) (h8 : u < 8) : ∀ (d v f : Nat), v + d = 2046 → d < f → LGX11_undo_22 f (zI v) (cpA M 0 0 1 (2046 * u) v) = some (cpA M 0 0 1 (2046 * u) 2046) := by
  intro d
  induction d with
  | zero =>
    intro v f h hf
    obtain ⟨f, rfl⟩ : ∃ f', f = f' + 1 := ⟨f - 1, by omega⟩
    have hc : (2046 : Int32) ≤ zI v := (zN_le (a := 2046) (by omega) (by omega)).mpr (by omega)
    rw [LGX11_undo_22, if_pos hc, show v = 2046 by omega]
  | succ d ih =>
    intro v f h hf
    obtain ⟨f, rfl⟩ : ∃ f', f = f' + 1 := ⟨f - 1, by omega⟩
    have hc : ¬ (2046 : Int32) ≤ zI v := fun q => by have := (zN_le (a := 2046) (by omega) (by omega)).mp q; omega
    have e1 : (2046 : Int32) * zI u + zI v = zI ((2046 * u + v : Nat) : Int) := by rw [show (2046 : Int32) = zI ((2046 : Nat) : Int) from rfl, zN_mul, zN_add]
    have st := cpA_s M 0 0 1 (2046 * u) v (by omega)
    rw [Nat.zero_add] at st
    rw [LGX11_undo_22, if_neg hc, cpA_F, hu, e1, ix_l _ _ (by omega) (by omega), bnd, ix_l _ _ (by omega) (by omega), bnd, zN_add1, st]
    exact ih (v + 1) f (by omega) (by omega)
theorem g_cp {M : MS} {a b : Nat} (ha : a < 24) (hb : b < 24) (hab : a ≠ b) : ∀ (d v f : Nat), v + d = 85 → d < f → LGX11_copies_2 f (zI a) (zI b) (zI v) (cpA M 0 (85 * b) 0 (85 * a) v) = some (cpA M 0 (85 * b) 0 (85 * a) 85) := by
  intro d
  induction d with
  | zero =>
    intro v f h hf
    obtain ⟨f, rfl⟩ : ∃ f', f = f' + 1 := ⟨f - 1, by omega⟩
    have hc : (85 : Int32) ≤ zI v := (zN_le (a := 85) (by omega) (by omega)).mpr (by omega)
    rw [LGX11_copies_2, if_pos hc, show v = 85 by omega]
  | succ d ih =>
    intro v f h hf
    obtain ⟨f, rfl⟩ : ∃ f', f = f' + 1 := ⟨f - 1, by omega⟩
    have hc : ¬ (85 : Int32) ≤ zI v := fun q => by have := (zN_le (a := 85) (by omega) (by omega)).mp q; omega
    have e1 : ∀ c : Nat, (85 : Int32) * zI c + zI v = zI ((85 * c + v : Nat) : Int) := fun c => by rw [show (85 : Int32) = zI ((85 : Nat) : Int) from rfl, zN_mul, zN_add]
    have st := cpA_s M 0 (85 * b) 0 (85 * a) v (by omega)
    rw [LGX11_copies_2, if_neg hc, e1, e1, ix_l _ _ (by omega) (by omega), bnd, ix_l _ _ (by omega) (by omega), bnd, zN_add1, st]
    exact ih (v + 1) f (by omega) (by omega)
theorem g_lay {M : MS} {b : Nat} (hb : b < 24) : ∀ (d v f : Nat), v + d = 85 → d < f → LGX11_lays_2 f (zI b) (zI v) (cpA M 0 (85 * b) 3 0 v) = some (cpA M 0 (85 * b) 3 0 85) := by
  intro d
  induction d with
  | zero =>
    intro v f h hf
    obtain ⟨f, rfl⟩ : ∃ f', f = f' + 1 := ⟨f - 1, by omega⟩
    have hc : (85 : Int32) ≤ zI v := (zN_le (a := 85) (by omega) (by omega)).mpr (by omega)
    rw [LGX11_lays_2, if_pos hc, show v = 85 by omega]
  | succ d ih =>
    intro v f h hf
    obtain ⟨f, rfl⟩ : ∃ f', f = f' + 1 := ⟨f - 1, by omega⟩
    have hc : ¬ (85 : Int32) ≤ zI v := fun q => by have := (zN_le (a := 85) (by omega) (by omega)).mp q; omega
    have e1 : (85 : Int32) * zI b + zI v = zI ((85 * b + v : Nat) : Int) := by rw [show (85 : Int32) = zI ((85 : Nat) : Int) from rfl, zN_mul, zN_add]
    have st := cpA_s M 0 (85 * b) 3 0 v (by omega)
    rw [Nat.zero_add] at st
    rw [LGX11_lays_2, if_neg hc, e1, ix_l _ _ (by omega) (by omega), bnd, ix_l _ _ (by omega) (by omega), bnd, zN_add1, st]
    exact ih (v + 1) f (by omega) (by omega)

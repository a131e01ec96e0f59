/-- numbers mixed into a hash, one after the other -/
def mixF (F : Nat → Int32) : Nat → Int64 → Int64
  | 0, h => h
  | m + 1, h => (31 * mixF F m h) + (F m).toInt64
def dcF (P : PoT) (W H c n v : Nat) : Int32 := zI (cntV P W H c n v)
def dlF (P : PoT) (W v : Nat) : Int32 := zI (linV P W (v / 10) (v % 10))
def drF (P : PoT) (W H v : Nat) : Int32 := zI (rowV P W H (v / 9) (v % 9))
def dpF (P : PoT) (W H v : Nat) : Int32 := zI (pgV P W H (v / 5) (v % 5))
def dbF (P : PoT) (W v : Nat) : Int32 := byV P W (v / W) (v % W)
def dsF (P : PoT) (W v : Nat) : Int32 := zI (neV (dsV P W v))
def dg1 (P : PoT) (W H c n : Nat) : Int64 := mixF (dcF P W H c n) 16 805
def dg2 (P : PoT) (W H c n : Nat) : Int64 := mixF (dlF P W) (10 * P.2.1) (dg1 P W H c n)
def dg3 (P : PoT) (W H c n : Nat) : Int64 := mixF (drF P W H) (9 * rwN P W) (dg2 P W H c n)
def dg4 (P : PoT) (W H c n : Nat) : Int64 := mixF (dpF P W H) (5 * pgN P W H) (dg3 P W H c n)
def dg5 (P : PoT) (W H c n : Nat) : Int64 := mixF (dbF P W) (W * rwN P W) (dg4 P W H c n)
def dg6 (P : PoT) (W H c n : Nat) : Int64 := mixF (dsF P W) (szN P P.2.1) (dg5 P W H c n)
def dg7 (P : PoT) (W H c : Nat) (T : Nat → Int32) (n : Nat) : Int64 := mixF T n (dg6 P W H c n)
theorem div_kj {m k j : Nat} (hj : j < m) : (m * k + j) / m = k ∧ (m * k + j) % m = j := by
  constructor
  · rw [Nat.mul_add_div (by omega), Nat.div_eq_of_lt hj]; rfl
  · rw [Nat.mul_add_mod, Nat.mod_eq_of_lt hj]
theorem k_wLines1 {x : Nat} {σ : St} {F : Nat → Int32} {k : Nat} (h : Int64) (A : ∀ j : Nat, j < 10 → f_X10_line σ x (zI k) (zI j) = some (F (10 * k + j))) : ∀ (d j f : Nat), j + d = 10 → d < f → LX10_withLines_16 f σ x (zI k) (mixF F (10 * k + j) h) (zI j) = some (mixF F (10 * k + 10) h) := by
  intro d
  induction d with
  | zero =>
    intro j f hj hf
    obtain ⟨f, rfl⟩ : ∃ f1, f = f1 + 1 := ⟨f - 1, by omega⟩
    have e : j = 10 := by omega
    subst e
    rw [LX10_withLines_16, if_pos (by decide)]
  | succ d ih =>
    intro j f hj hf
    obtain ⟨f, rfl⟩ : ∃ f1, f = f1 + 1 := ⟨f - 1, by omega⟩
    have hc : ¬ (10 : Int32) ≤ zI (j : Int) := fun y => by have := (zN_le (a := 10) (by omega) (by omega)).mp y; omega
    rw [LX10_withLines_16, if_neg hc, A j (by omega), bnd, f_X10_mixed, bnd, zN_add1]
    exact ih (j + 1) f (by omega) (by omega)
theorem k_wLines2 {x : Nat} {σ : St} {F : Nat → Int32} {N : Nat} (h : Int64) (hN : N ≤ 1000) (K1 : hpK σ (x + 3) = 5) (K0 : hpR σ 321 x = some (x + 3)) (e2 : hpI σ 162 (x + 3) = zI N) (A : ∀ k j : Nat, k < N → j < 10 → f_X10_line σ x (zI k) (zI j) = some (F (10 * k + j))) : ∀ (d k f : Nat), k + d = N → d < f → LX10_withLines_2 f σ x (mixF F (10 * k) h) (zI k) = some (mixF F (10 * N) h) := by
  intro d
  induction d with
  | zero =>
    intro k f hk hf
    obtain ⟨f, rfl⟩ : ∃ f1, f = f1 + 1 := ⟨f - 1, by omega⟩
    have e : k = N := by omega
    subst e
    rw [LX10_withLines_2, K0, dn_eq K1, bnd, e2, if_pos ((zN_le (by omega) (by omega)).mpr (Nat.le_refl _))]
  | succ d ih =>
    intro k f hk hf
    obtain ⟨f, rfl⟩ : ∃ f1, f = f1 + 1 := ⟨f - 1, by omega⟩
    have e := k_wLines1 (F := F) h (fun j hj => A k j (by omega) hj) 10 0 FU rfl (by simp only [FU]; omega)
    have e' : LX10_withLines_16 FU σ x (zI k) (mixF F (10 * k) h) 0 = some (mixF F (10 * k + 10) h) := e
    rw [LX10_withLines_2, K0, dn_eq K1, bnd, e2, if_neg (fun y => by have := (zN_le (by omega) (by omega)).mp y; omega), e', bnd, zN_add1, show 10 * k + 10 = 10 * (k + 1) by omega]
    exact ih (k + 1) f (by omega) (by omega)
theorem k_wLines {x : Nat} {σ : St} {F : Nat → Int32} {N : Nat} (h : Int64) (hN : N ≤ 1000) (K1 : hpK σ (x + 3) = 5) (K0 : hpR σ 321 x = some (x + 3)) (e2 : hpI σ 162 (x + 3) = zI N) (A : ∀ k j : Nat, k < N → j < 10 → f_X10_line σ x (zI k) (zI j) = some (F (10 * k + j))) : f_X10_withLines σ x h = some (mixF F (10 * N) h) := by
  have e := k_wLines2 (F := F) h hN K1 K0 e2 A N 0 FU (by omega) (by simp only [FU]; omega)
  have e' : LX10_withLines_2 FU σ x h 0 = some (mixF F (10 * N) h) := e
  rw [f_X10_withLines, e', bnd]
theorem k_wRows1 {x : Nat} {σ : St} {F : Nat → Int32} {k : Nat} (h : Int64) (A : ∀ j : Nat, j < 9 → f_X10_row σ x (zI k) (zI j) = some (F (9 * k + j))) : ∀ (d j f : Nat), j + d = 9 → d < f → LX10_withRows_16 f σ x (zI k) (mixF F (9 * k + j) h) (zI j) = some (mixF F (9 * k + 9) h) := by
  intro d
  induction d with
  | zero =>
    intro j f hj hf
    obtain ⟨f, rfl⟩ : ∃ f1, f = f1 + 1 := ⟨f - 1, by omega⟩
    have e : j = 9 := by omega
    subst e
    rw [LX10_withRows_16, if_pos (by decide)]
  | succ d ih =>
    intro j f hj hf
    obtain ⟨f, rfl⟩ : ∃ f1, f = f1 + 1 := ⟨f - 1, by omega⟩
    have hc : ¬ (9 : Int32) ≤ zI (j : Int) := fun y => by have := (zN_le (a := 9) (by omega) (by omega)).mp y; omega
    rw [LX10_withRows_16, if_neg hc, A j (by omega), bnd, f_X10_mixed, bnd, zN_add1]
    exact ih (j + 1) f (by omega) (by omega)
theorem k_wRows2 {x : Nat} {σ : St} {F : Nat → Int32} {N : Nat} (h : Int64) (hN : N ≤ 1000) (K1 : hpK σ (x + 32) = 1) (K0 : hpR σ 323 x = some (x + 32)) (e2 : hpI σ 36 (x + 32) = zI N) (A : ∀ k j : Nat, k < N → j < 9 → f_X10_row σ x (zI k) (zI j) = some (F (9 * k + j))) : ∀ (d k f : Nat), k + d = N → d < f → LX10_withRows_2 f σ x (mixF F (9 * k) h) (zI k) = some (mixF F (9 * N) h) := by
  intro d
  induction d with
  | zero =>
    intro k f hk hf
    obtain ⟨f, rfl⟩ : ∃ f1, f = f1 + 1 := ⟨f - 1, by omega⟩
    have e : k = N := by omega
    subst e
    rw [LX10_withRows_2, K0, dn_eq K1, bnd, e2, if_pos ((zN_le (by omega) (by omega)).mpr (Nat.le_refl _))]
  | succ d ih =>
    intro k f hk hf
    obtain ⟨f, rfl⟩ : ∃ f1, f = f1 + 1 := ⟨f - 1, by omega⟩
    have e := k_wRows1 (F := F) h (fun j hj => A k j (by omega) hj) 9 0 FU rfl (by simp only [FU]; omega)
    have e' : LX10_withRows_16 FU σ x (zI k) (mixF F (9 * k) h) 0 = some (mixF F (9 * k + 9) h) := e
    rw [LX10_withRows_2, K0, dn_eq K1, bnd, e2, if_neg (fun y => by have := (zN_le (by omega) (by omega)).mp y; omega), e', bnd, zN_add1, show 9 * k + 9 = 9 * (k + 1) by omega]
    exact ih (k + 1) f (by omega) (by omega)
theorem k_wRows {x : Nat} {σ : St} {F : Nat → Int32} {N : Nat} (h : Int64) (hN : N ≤ 1000) (K1 : hpK σ (x + 32) = 1) (K0 : hpR σ 323 x = some (x + 32)) (e2 : hpI σ 36 (x + 32) = zI N) (A : ∀ k j : Nat, k < N → j < 9 → f_X10_row σ x (zI k) (zI j) = some (F (9 * k + j))) : f_X10_withRows σ x h = some (mixF F (9 * N) h) := by
  have e := k_wRows2 (F := F) h hN K1 K0 e2 A N 0 FU (by omega) (by simp only [FU]; omega)
  have e' : LX10_withRows_2 FU σ x h 0 = some (mixF F (9 * N) h) := e
  rw [f_X10_withRows, e', bnd]
theorem k_wPages1 {x : Nat} {σ : St} {F : Nat → Int32} {k : Nat} (h : Int64) (A : ∀ j : Nat, j < 5 → f_X10_page σ x (zI k) (zI j) = some (F (5 * k + j))) : ∀ (d j f : Nat), j + d = 5 → d < f → LX10_withPages_16 f σ x (zI k) (mixF F (5 * k + j) h) (zI j) = some (mixF F (5 * k + 5) h) := by
  intro d
  induction d with
  | zero =>
    intro j f hj hf
    obtain ⟨f, rfl⟩ : ∃ f1, f = f1 + 1 := ⟨f - 1, by omega⟩
    have e : j = 5 := by omega
    subst e
    rw [LX10_withPages_16, if_pos (by decide)]
  | succ d ih =>
    intro j f hj hf
    obtain ⟨f, rfl⟩ : ∃ f1, f = f1 + 1 := ⟨f - 1, by omega⟩
    have hc : ¬ (5 : Int32) ≤ zI (j : Int) := fun y => by have := (zN_le (a := 5) (by omega) (by omega)).mp y; omega
    rw [LX10_withPages_16, if_neg hc, A j (by omega), bnd, f_X10_mixed, bnd, zN_add1]
    exact ih (j + 1) f (by omega) (by omega)
theorem k_wPages2 {x : Nat} {σ : St} {F : Nat → Int32} {N : Nat} (h : Int64) (hN : N ≤ 1000) (K1 : hpK σ (x + 32) = 1) (K0 : hpR σ 323 x = some (x + 32)) (e2 : hpI σ 38 (x + 32) = zI N) (A : ∀ k j : Nat, k < N → j < 5 → f_X10_page σ x (zI k) (zI j) = some (F (5 * k + j))) : ∀ (d k f : Nat), k + d = N → d < f → LX10_withPages_2 f σ x (mixF F (5 * k) h) (zI k) = some (mixF F (5 * N) h) := by
  intro d
  induction d with
  | zero =>
    intro k f hk hf
    obtain ⟨f, rfl⟩ : ∃ f1, f = f1 + 1 := ⟨f - 1, by omega⟩
    have e : k = N := by omega
    subst e
    rw [LX10_withPages_2, K0, dn_eq K1, bnd, e2, if_pos ((zN_le (by omega) (by omega)).mpr (Nat.le_refl _))]
  | succ d ih =>
    intro k f hk hf
    obtain ⟨f, rfl⟩ : ∃ f1, f = f1 + 1 := ⟨f - 1, by omega⟩
    have e := k_wPages1 (F := F) h (fun j hj => A k j (by omega) hj) 5 0 FU rfl (by simp only [FU]; omega)
    have e' : LX10_withPages_16 FU σ x (zI k) (mixF F (5 * k) h) 0 = some (mixF F (5 * k + 5) h) := e
    rw [LX10_withPages_2, K0, dn_eq K1, bnd, e2, if_neg (fun y => by have := (zN_le (by omega) (by omega)).mp y; omega), e', bnd, zN_add1, show 5 * k + 5 = 5 * (k + 1) by omega]
    exact ih (k + 1) f (by omega) (by omega)
theorem k_wPages {x : Nat} {σ : St} {F : Nat → Int32} {N : Nat} (h : Int64) (hN : N ≤ 1000) (K1 : hpK σ (x + 32) = 1) (K0 : hpR σ 323 x = some (x + 32)) (e2 : hpI σ 38 (x + 32) = zI N) (A : ∀ k j : Nat, k < N → j < 5 → f_X10_page σ x (zI k) (zI j) = some (F (5 * k + j))) : f_X10_withPages σ x h = some (mixF F (5 * N) h) := by
  have e := k_wPages2 (F := F) h hN K1 K0 e2 A N 0 FU (by omega) (by simp only [FU]; omega)
  have e' : LX10_withPages_2 FU σ x h 0 = some (mixF F (5 * N) h) := e
  rw [f_X10_withPages, e', bnd]
theorem k_wPl1 {x W : Nat} {σ : St} {F : Nat → Int32} {k ro : Nat} (h : Int64) (hW : W ≤ 60) (A : ∀ j : Nat, j < W → f_X10_byteInRow σ x (some ro) (zI j) = some (F (W * k + j))) : ∀ (d j f : Nat), j + d = W → d < f → LX10_withPlaces_38 f σ x (zI W) (zI k) (some ro) (mixF F (W * k + j) h) (zI j) = some (mixF F (W * k + W) h) := by
  intro d
  induction d with
  | zero =>
    intro j f hj hf
    obtain ⟨f, rfl⟩ : ∃ f1, f = f1 + 1 := ⟨f - 1, by omega⟩
    have e : j = W := by omega
    subst e
    rw [LX10_withPlaces_38, if_pos ((zN_le (by omega) (by omega)).mpr (Nat.le_refl _))]
  | succ d ih =>
    intro j f hj hf
    obtain ⟨f, rfl⟩ : ∃ f1, f = f1 + 1 := ⟨f - 1, by omega⟩
    rw [LX10_withPlaces_38, if_neg (fun y => by have := (zN_le (by omega) (by omega)).mp y; omega), A j (by omega), bnd, f_X10_mixed, bnd, zN_add1]
    exact ih (j + 1) f (by omega) (by omega)
theorem k_wPl2 {x W : Nat} {σ : St} {F : Nat → Int32} {N : Nat} (h : Int64) (hN : N ≤ 1000) (hW : W ≤ 60) (K1 : hpK σ (x + 32) = 1) (K0 : hpR σ 323 x = some (x + 32)) (e2 : hpI σ 36 (x + 32) = zI N) (A : ∀ k : Nat, k < N → ∃ ro, f_X1_rowAt σ (x + 32) (zI k) = some (some ro) ∧ ∀ j : Nat, j < W → f_X10_byteInRow σ x (some ro) (zI j) = some (F (W * k + j))) : ∀ (d k f : Nat), k + d = N → d < f → LX10_withPlaces_12 f σ x (zI W) (mixF F (W * k) h) (zI k) = some (mixF F (W * N) h) := by
  intro d
  induction d with
  | zero =>
    intro k f hk hf
    obtain ⟨f, rfl⟩ : ∃ f1, f = f1 + 1 := ⟨f - 1, by omega⟩
    have e : k = N := by omega
    subst e
    rw [LX10_withPlaces_12, K0, dn_eq K1, bnd, e2, if_pos ((zN_le (by omega) (by omega)).mpr (Nat.le_refl _))]
  | succ d ih =>
    intro k f hk hf
    obtain ⟨f, rfl⟩ : ∃ f1, f = f1 + 1 := ⟨f - 1, by omega⟩
    obtain ⟨ro, r1, r2⟩ := A k (by omega)
    have e := k_wPl1 (F := F) (k := k) h hW r2 W 0 FU (by omega) (by simp only [FU]; omega)
    have e' : LX10_withPlaces_38 FU σ x (zI W) (zI k) (some ro) (mixF F (W * k) h) 0 = some (mixF F (W * k + W) h) := e
    rw [LX10_withPlaces_12, K0, dn_eq K1, bnd, e2, if_neg (fun y => by have := (zN_le (by omega) (by omega)).mp y; omega), r1, bnd, e', bnd, zN_add1, show W * k + W = W * (k + 1) by rw [Nat.mul_succ]]
    exact ih (k + 1) f (by omega) (by omega)
theorem k_dg6 {x : Nat} {σ : St} {F : Nat → Int32} (h : Int64) (A : ∀ j : Nat, j < 16 → f_X10_count σ x (zI j) = some (F j)) : ∀ (d j f : Nat), j + d = 16 → d < f → LX10_digest_6 f σ x (mixF F j h) (zI j) = some (mixF F 16 h) := by
  intro d
  induction d with
  | zero =>
    intro j f hj hf
    obtain ⟨f, rfl⟩ : ∃ f1, f = f1 + 1 := ⟨f - 1, by omega⟩
    have e : j = 16 := by omega
    subst e
    rw [LX10_digest_6, if_pos (by decide)]
  | succ d ih =>
    intro j f hj hf
    obtain ⟨f, rfl⟩ : ∃ f1, f = f1 + 1 := ⟨f - 1, by omega⟩
    have hc : ¬ (16 : Int32) ≤ zI (j : Int) := fun y => by have := (zN_le (a := 16) (by omega) (by omega)).mp y; omega
    rw [LX10_digest_6, if_neg hc, A j (by omega), bnd, f_X10_mixed, bnd, zN_add1]
    exact ih (j + 1) f (by omega) (by omega)
theorem k_dg54 {x : Nat} {σ : St} {F : Nat → Int32} {N : Nat} (h : Int64) (hN : N ≤ 1000) (K1 : hpK σ (x + 32) = 1) (K0 : hpR σ 323 x = some (x + 32)) (e2 : hpI σ 37 (x + 32) = zI N) (A : ∀ j : Nat, j < N → f_X10_shape σ x (zI j) = some (F j)) : ∀ (d j f : Nat), j + d = N → d < f → LX10_digest_54 f σ x (mixF F j h) (zI j) = some (mixF F N h) := by
  intro d
  induction d with
  | zero =>
    intro j f hj hf
    obtain ⟨f, rfl⟩ : ∃ f1, f = f1 + 1 := ⟨f - 1, by omega⟩
    have e : j = N := by omega
    subst e
    rw [LX10_digest_54, K0, dn_eq K1, bnd, e2, if_pos ((zN_le (by omega) (by omega)).mpr (Nat.le_refl _))]
  | succ d ih =>
    intro j f hj hf
    obtain ⟨f, rfl⟩ : ∃ f1, f = f1 + 1 := ⟨f - 1, by omega⟩
    rw [LX10_digest_54, K0, dn_eq K1, bnd, e2, if_neg (fun y => by have := (zN_le (by omega) (by omega)).mp y; omega), A j (by omega), bnd, f_X10_mixed, bnd, zN_add1]
    exact ih (j + 1) f (by omega) (by omega)
theorem k_dg83 {x : Nat} {σ : St} {T : Nat → Int32} {n : Nat} (h : Int64) (k2 : CT σ (x + 1) T n) (K0 : hpR σ 320 x = some (x + 1)) : ∀ (d j f : Nat), j + d = n → d < f → LX10_digest_83 f σ x (mixF T j h) (zI j) = some (mixF T n h) := by
  have hn := k2.1
  intro d
  induction d with
  | zero =>
    intro j f hj hf
    obtain ⟨f, rfl⟩ : ∃ f1, f = f1 + 1 := ⟨f - 1, by omega⟩
    have e : j = n := by omega
    subst e
    rw [LX10_digest_83, K0, dn_k k2.2.1, bnd, k2.2.2.2.2.2.1, if_pos ((zN_le (by omega) (by omega)).mpr (Nat.le_refl _))]
  | succ d ih =>
    intro j f hj hf
    obtain ⟨f, rfl⟩ : ∃ f1, f = f1 + 1 := ⟨f - 1, by omega⟩
    rw [LX10_digest_83, K0, dn_k k2.2.1, bnd, k2.2.2.2.2.2.1, if_neg (fun y => by have := (zN_le (by omega) (by omega)).mp y; omega), c_byteAt k2 (by omega), bnd, TX_in (by omega), f_X10_mixed, bnd, zN_add1]
    exact ih (j + 1) f (by omega) (by omega)
theorem k_dg6z {x : Nat} {σ : St} {F : Nat → Int32} (h : Int64) (A : ∀ j : Nat, j < 16 → f_X10_count σ x (zI j) = some (F j)) : LX10_digest_6 FU σ x h 0 = some (mixF F 16 h) := k_dg6 h A 16 0 FU rfl (by simp only [FU]; omega)
theorem k_dg54z {x : Nat} {σ : St} {F : Nat → Int32} {N : Nat} (h : Int64) (hN : N ≤ 1000) (K1 : hpK σ (x + 32) = 1) (K0 : hpR σ 323 x = some (x + 32)) (e2 : hpI σ 37 (x + 32) = zI N) (A : ∀ j : Nat, j < N → f_X10_shape σ x (zI j) = some (F j)) : LX10_digest_54 FU σ x h 0 = some (mixF F N h) := k_dg54 h hN K1 K0 e2 A N 0 FU (by omega) (by simp only [FU]; omega)
theorem k_dg83z {x : Nat} {σ : St} {T : Nat → Int32} {n : Nat} (h : Int64) (k2 : CT σ (x + 1) T n) (K0 : hpR σ 320 x = some (x + 1)) : LX10_digest_83 FU σ x h 0 = some (mixF T n h) := k_dg83 h k2 K0 n 0 FU (by omega) (by have := k2.1; simp only [FU]; omega)
theorem k_wPlz {x W : Nat} {σ : St} {F : Nat → Int32} {N : Nat} (h : Int64) (hN : N ≤ 1000) (hW : W ≤ 60) (K1 : hpK σ (x + 32) = 1) (K0 : hpR σ 323 x = some (x + 32)) (e2 : hpI σ 36 (x + 32) = zI N) (A : ∀ k : Nat, k < N → ∃ ro, f_X1_rowAt σ (x + 32) (zI k) = some (some ro) ∧ ∀ j : Nat, j < W → f_X10_byteInRow σ x (some ro) (zI j) = some (F (W * k + j))) : LX10_withPlaces_12 FU σ x (zI W) h 0 = some (mixF F (W * N) h) := k_wPl2 h hN hW K1 K0 e2 A N 0 FU (by omega) (by simp only [FU]; omega)
theorem k_dc {x : Nat} {σ : St} {P : PoT} {hs : Nat → PoT} {c : Nat} {T : Nat → Int32} {n : Nat} (K : KQ x σ P hs c T n) (j : Nat) (hj : j < 16) : f_X10_count σ x (zI j) = some (dcF P (P.2.2 0) (P.2.2 1) c n j) := by
  rw [k_count K j (by omega) (by omega), if_pos ⟨by omega, by omega⟩]; rfl
theorem k_dl {x : Nat} {σ : St} {P : PoT} {hs : Nat → PoT} {c : Nat} {T : Nat → Int32} {n : Nat} (K : KQ x σ P hs c T n) (k j : Nat) (hk : k < P.2.1) (hj : j < 10) : f_X10_line σ x (zI k) (zI j) = some (dlF P (P.2.2 0) (10 * k + j)) := by
  have h24 := K.1.2.2.1
  rw [k_line K k j (by omega) (by omega) (by omega) (by omega), if_pos ⟨⟨by omega, by omega⟩, by omega, by omega⟩]
  unfold dlF; rw [(div_kj hj).1, (div_kj hj).2]; rfl
theorem k_dr {x : Nat} {σ : St} {P : PoT} {hs : Nat → PoT} {c : Nat} {T : Nat → Int32} {n : Nat} (K : KQ x σ P hs c T n) (k j : Nat) (hk : k < rwN P (P.2.2 0)) (hj : j < 9) : f_X10_row σ x (zI k) (zI j) = some (drF P (P.2.2 0) (P.2.2 1) (9 * k + j)) := by
  have h480 := rwN_le K.1.2.2 K.1.2.2.2.2.1 K.1.2.2.2.2.2.1
  rw [k_row K k j (by omega) (by omega) (by omega) (by omega), if_pos ⟨by omega, by omega, by omega⟩, if_pos (show (k : Int) < rwN P (P.2.2 0) by omega)]
  unfold drF; rw [(div_kj hj).1, (div_kj hj).2]; rfl
theorem k_dp {x : Nat} {σ : St} {P : PoT} {hs : Nat → PoT} {c : Nat} {T : Nat → Int32} {n : Nat} (K : KQ x σ P hs c T n) (k j : Nat) (hk : k < pgN P (P.2.2 0) (P.2.2 1)) (hl : pgN P (P.2.2 0) (P.2.2 1) ≤ 480) (hj : j < 5) : f_X10_page σ x (zI k) (zI j) = some (dpF P (P.2.2 0) (P.2.2 1) (5 * k + j)) := by
  rw [k_page K k j (by omega) (by omega) (by omega) (by omega), if_pos ⟨⟨by omega, by omega⟩, by omega, by omega⟩]
  unfold dpF; rw [(div_kj hj).1, (div_kj hj).2]; rfl
theorem k_ds {x : Nat} {σ : St} {P : PoT} {hs : Nat → PoT} {c : Nat} {T : Nat → Int32} {n : Nat} (K : KQ x σ P hs c T n) (j : Nat) (hj : j < szN P P.2.1) : f_X10_shape σ x (zI j) = some (dsF P (P.2.2 0) j) := by
  have h24 := K.1.2.2.1
  have hz := (szN_le P P.2.1).1
  rw [k_shape K j (by omega) (by omega), if_pos ⟨by omega, by omega⟩]; rfl
theorem k_digest {x : Nat} {σ : St} {P : PoT} {hs : Nat → PoT} {c : Nat} {T : Nat → Int32} {n : Nat} (K : KQ x σ P hs c T n) : f_X10_digest σ x = some (dg7 P (P.2.2 0) (P.2.2 1) c T n) := by
  obtain ⟨C, S, lo⟩ := KQ_LO K
  obtain ⟨⟨k, kL, ho⟩, R⟩ := id K
  obtain ⟨k1, k2, k3, k4, k5, k6, k7, k8⟩ := id k
  obtain ⟨s1, s2, s3, s4, s5, s6, s7⟩ := ho.2.2
  have h24 := ho.1
  have hz := (szN_le P P.2.1).1
  have h480 := rwN_le ho s1 s2
  have hpg := lo.2.2.1.2
  have hn := k2.1
  have a1 := k_dg6z 805 (k_dc K)
  have a2 := k_wLines (dg1 P (P.2.2 0) (P.2.2 1) c n) (show P.2.1 ≤ 1000 by omega) k3.1.1.1 k1.2.2.1 k3.1.2.1 (k_dl K)
  have a3 := k_wRows (dg2 P (P.2.2 0) (P.2.2 1) c n) (show rwN P (P.2.2 0) ≤ 1000 by omega) k5.2.1 k1.2.2.2.2.1 lo.1.2.1.1 (k_dr K)
  have a4 := k_wPages (dg3 P (P.2.2 0) (P.2.2 1) c n) (show pgN P (P.2.2 0) (P.2.2 1) ≤ 1000 by omega) k5.2.1 k1.2.2.2.2.1 lo.2.2.1.1 (fun k j hk hj => k_dp K k j hk hpg hj)
  have a5 := k_wPlz (F := dbF P (P.2.2 0)) (W := P.2.2 0) (dg4 P (P.2.2 0) (P.2.2 1) c n) (show rwN P (P.2.2 0) ≤ 1000 by omega) s2 k5.2.1 k1.2.2.2.2.1 lo.1.2.1.1 (fun k hk => by
    obtain ⟨ro, r1, r2, -⟩ := c_rowF lo hk
    refine ⟨ro, r1, fun j hj => ?_⟩
    obtain ⟨ro', r3, r4⟩ := k_byte K (i := k) (col := j) hk (by omega)
    rw [r2] at r3; cases r3
    rw [r4]; unfold dbF; rw [(div_kj hj).1, (div_kj hj).2])
  have a6 := k_dg54z (dg5 P (P.2.2 0) (P.2.2 1) c n) (show szN P P.2.1 ≤ 1000 by omega) k5.2.1 k1.2.2.2.2.1 lo.1.2.2.2.2.1 (k_ds K)
  have a7 := k_dg83z (dg6 P (P.2.2 0) (P.2.2 1) c n) k2 k1.2.1
  have st0 : f_X5_setting σ (x + 3) 0 = some (zI (P.2.2 0)) := c_setting (i := 0) k3.1 (by decide)
  have e1 : mixF (dcF P (P.2.2 0) (P.2.2 1) c n) 16 805 = dg1 P (P.2.2 0) (P.2.2 1) c n := by unfold dg1; rfl
  have e2 : mixF (dlF P (P.2.2 0)) (10 * P.2.1) (dg1 P (P.2.2 0) (P.2.2 1) c n) = dg2 P (P.2.2 0) (P.2.2 1) c n := by unfold dg2; rfl
  have e3 : mixF (drF P (P.2.2 0) (P.2.2 1)) (9 * rwN P (P.2.2 0)) (dg2 P (P.2.2 0) (P.2.2 1) c n) = dg3 P (P.2.2 0) (P.2.2 1) c n := by unfold dg3; rfl
  have e4 : mixF (dpF P (P.2.2 0) (P.2.2 1)) (5 * pgN P (P.2.2 0) (P.2.2 1)) (dg3 P (P.2.2 0) (P.2.2 1) c n) = dg4 P (P.2.2 0) (P.2.2 1) c n := by unfold dg4; rfl
  have e5 : mixF (dbF P (P.2.2 0)) (P.2.2 0 * rwN P (P.2.2 0)) (dg4 P (P.2.2 0) (P.2.2 1) c n) = dg5 P (P.2.2 0) (P.2.2 1) c n := by unfold dg5; rfl
  have e6 : mixF (dsF P (P.2.2 0)) (szN P P.2.1) (dg5 P (P.2.2 0) (P.2.2 1) c n) = dg6 P (P.2.2 0) (P.2.2 1) c n := by unfold dg6; rfl
  have e7 : mixF T n (dg6 P (P.2.2 0) (P.2.2 1) c n) = dg7 P (P.2.2 0) (P.2.2 1) c T n := by unfold dg7; rfl
  rw [e1] at a1
  rw [e2] at a2
  rw [e3] at a3
  rw [e4] at a4
  rw [e5] at a5
  rw [e6] at a6
  rw [e7] at a7
  have pl : f_X10_withPlaces σ x (dg4 P (P.2.2 0) (P.2.2 1) c n) = some (dg5 P (P.2.2 0) (P.2.2 1) c n) := by
    rw [f_X10_withPlaces, k1.2.2.1, dn_eq k3.1.1.1, bnd, st0, bnd, a5, bnd]
  rw [f_X10_digest, a1, bnd, a2, bnd, a3, bnd, a4, bnd, pl, bnd, a6, bnd, a7, bnd]

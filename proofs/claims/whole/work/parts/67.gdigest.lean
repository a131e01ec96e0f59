theorem RM_J {M : MS} {rs : RS} (h : RM M rs) (x : Int64) : RM (eJ M x) rs := ⟨h.1, h.2⟩
theorem DM_J {M : MS} {P : PoT} {W k : Nat} (h : DM M P W k) (x : Int64) : DM (eJ M x) P W k := ⟨RM_J h.1 x, h.2.1, h.2.2.1, h.2.2.2.1, h.2.2.2.2.1, h.2.2.2.2.2.1, h.2.2.2.2.2.2⟩
theorem QM_J {M : MS} {s : QS} {r : Nat} (h : QM M s r) (x : Int64) : QM (eJ M x) s r := ⟨h.1, h.2.1, h.2.2.1, h.2.2.2⟩
theorem PM_J {M : MS} {P : PoT} (h : PM M P) (x : Int64) : PM (eJ M x) P := PM_c h (fun _ => rfl)
theorem ND_J {M : MS} {P : PoT} (h : ND M P) (x : Int64) : ND (eJ M x) P := ⟨PM_J h.1 x, h.2.1, DM_J h.2.2.1 x, QM_J h.2.2.2.1 x, h.2.2.2.2⟩
theorem MI_J {M : MS} {P : PoT} {hs : Nat → PoT} {c : Nat} {T : Nat → Int32} {n : Nat} (h : MI M P hs c T n) (x : Int64) : MI (eJ M x) P hs c T n := ⟨PM_J h.1 x, h.2.1, HM_c h.2.2.1 (fun _ => rfl) rfl, MT_c h.2.2.2 (fun _ => rfl) rfl⟩
theorem g_mixJ (N : MS) (x y : Int64) : g_X11_mixes (eJ N x) y = some (eJ N ((31 * x) + y)) := rfl
theorem z_mod {v m : Nat} (hv : v ≤ 1000000) (hm : m ≤ 1000) : zI (v : Int) / zI m = zI ((v / m : Nat) : Int) ∧ zI (v : Int) - zI (v : Int) / zI m * zI m = zI ((v % m : Nat) : Int) := by
  have e1 : zI (v : Int) / zI m = zI ((v / m : Nat) : Int) := zN_div (by omega) (by omega)
  have h2 : v / m * m ≤ v := Nat.div_mul_le_self v m
  have h3 : m * (v / m) + v % m = v := Nat.div_add_mod v m
  have h4 : v / m * m = m * (v / m) := Nat.mul_comm _ _
  refine ⟨e1, ?_⟩
  rw [e1, zN_mul, zN_sub h2]; congr 2; omega
theorem g_dg13 {N : MS} {F : Nat → Int32} (h : Int64) (A : ∀ (j : Nat) (y : Int64), j < 16 → g_X11_number (eJ N y) (zI j) = some (F j)) : ∀ (d j f : Nat), j + d = 16 → d < f → LGX11_digest_13 f (zI j) (eJ N (mixF F j h)) = some (eJ N (mixF F 16 h)) := by
  intro d
  induction d with
  | zero =>
    intro j f hj hf
    obtain ⟨f, rfl⟩ : ∃ f1, f = f1 + 1 := ⟨f - 1, by omega⟩
    have e : j = 16 := by omega
    subst e
    rw [LGX11_digest_13, if_pos (by decide)]
  | succ d ih =>
    intro j f hj hf
    obtain ⟨f, rfl⟩ : ∃ f1, f = f1 + 1 := ⟨f - 1, by omega⟩
    have hc : ¬ (16 : Int32) ≤ zI (j : Int) := fun y => by have := (zN_le (a := 16) (by omega) (by omega)).mp y; omega
    rw [LGX11_digest_13, if_neg hc, A j _ (by omega), bnd, g_mixJ, bnd, zN_add1]
    exact ih (j + 1) f (by omega) (by omega)
theorem g_dg37 {N : MS} {F : Nat → Int32} {C : Nat} (h : Int64) (hC : C ≤ 1000) (e2 : mA N 0 2040 = zI C) (A : ∀ (v : Nat) (y : Int64), v < 10 * C → g_X11_linePart (eJ N y) (zI ((v / 10 : Nat) : Int)) (zI ((v % 10 : Nat) : Int)) = some (F v)) : ∀ (d v f : Nat), v + d = 10 * C → d < f → LGX11_digest_37 f (zI v) (eJ N (mixF F v h)) = some (eJ N (mixF F (10 * C) h)) := by
  have h40 : ix (2040 : Int32) 2046 = some 2040 := rfl
  have z10 : (10 : Int32) * zI C = zI ((10 * C : Nat) : Int) := zN_mul 10 C
  have n10 : nz (10 : Int32) = some 10 := rfl
  intro d
  induction d with
  | zero =>
    intro v f hv hf
    obtain ⟨f, rfl⟩ : ∃ f1, f = f1 + 1 := ⟨f - 1, by omega⟩
    have e : v = 10 * C := by omega
    subst e
    rw [LGX11_digest_37, h40, bnd, mA_eJ, e2, z10, if_pos ((zN_le (by omega) (by omega)).mpr (Nat.le_refl _))]
  | succ d ih =>
    intro v f hv hf
    obtain ⟨f, rfl⟩ : ∃ f1, f = f1 + 1 := ⟨f - 1, by omega⟩
    obtain ⟨m1, m2⟩ := z_mod (v := v) (m := 10) (by omega) (by omega)
    have m1' : zI (v : Int) / 10 = zI ((v / 10 : Nat) : Int) := m1
    have m2' : zI (v : Int) - zI (v : Int) / 10 * 10 = zI ((v % 10 : Nat) : Int) := m2
    rw [LGX11_digest_37, h40, bnd, mA_eJ, e2, z10, if_neg (fun y => by have := (zN_le (by omega) (by omega)).mp y; omega), n10, bnd, bnd, m2', m1', A v _ (by omega), bnd, g_mixJ, bnd, zN_add1]
    exact ih (v + 1) f (by omega) (by omega)
theorem g_dg77 {N : MS} {F : Nat → Int32} {C : Nat} (h : Int64) (hC : C ≤ 1000) (e2 : mF N 17 = zI C) (A : ∀ (v : Nat) (y : Int64), v < 9 * C → g_X11_rowPart (eJ N y) (zI ((v / 9 : Nat) : Int)) (zI ((v % 9 : Nat) : Int)) = some (F v)) : ∀ (d v f : Nat), v + d = 9 * C → d < f → LGX11_digest_77 f (zI v) (eJ N (mixF F v h)) = some (eJ N (mixF F (9 * C) h)) := by
  have h40 : ix (2040 : Int32) 2046 = some 2040 := rfl
  have z10 : (9 : Int32) * zI C = zI ((9 * C : Nat) : Int) := zN_mul 9 C
  have n10 : nz (9 : Int32) = some 9 := rfl
  intro d
  induction d with
  | zero =>
    intro v f hv hf
    obtain ⟨f, rfl⟩ : ∃ f1, f = f1 + 1 := ⟨f - 1, by omega⟩
    have e : v = 9 * C := by omega
    subst e
    rw [LGX11_digest_77, mF_eJ, e2, z10, if_pos ((zN_le (by omega) (by omega)).mpr (Nat.le_refl _))]
  | succ d ih =>
    intro v f hv hf
    obtain ⟨f, rfl⟩ : ∃ f1, f = f1 + 1 := ⟨f - 1, by omega⟩
    obtain ⟨m1, m2⟩ := z_mod (v := v) (m := 9) (by omega) (by omega)
    have m1' : zI (v : Int) / 9 = zI ((v / 9 : Nat) : Int) := m1
    have m2' : zI (v : Int) - zI (v : Int) / 9 * 9 = zI ((v % 9 : Nat) : Int) := m2
    rw [LGX11_digest_77, mF_eJ, e2, z10, if_neg (fun y => by have := (zN_le (by omega) (by omega)).mp y; omega), n10, bnd, bnd, m2', m1', A v _ (by omega), bnd, g_mixJ, bnd, zN_add1]
    exact ih (v + 1) f (by omega) (by omega)
theorem g_dg113 {N : MS} {F : Nat → Int32} {C : Nat} (h : Int64) (hC : C ≤ 1000) (e2 : ∀ y : Int64, g_X11_pages (eJ N y) = some (zI C)) (A : ∀ (v : Nat) (y : Int64), v < 5 * C → g_X11_pagePart (eJ N y) (zI ((v / 5 : Nat) : Int)) (zI ((v % 5 : Nat) : Int)) = some (F v)) : ∀ (d v f : Nat), v + d = 5 * C → d < f → LGX11_digest_113 f (zI v) (eJ N (mixF F v h)) = some (eJ N (mixF F (5 * C) h)) := by
  have h40 : ix (2040 : Int32) 2046 = some 2040 := rfl
  have z10 : (5 : Int32) * zI C = zI ((5 * C : Nat) : Int) := zN_mul 5 C
  have n10 : nz (5 : Int32) = some 5 := rfl
  intro d
  induction d with
  | zero =>
    intro v f hv hf
    obtain ⟨f, rfl⟩ : ∃ f1, f = f1 + 1 := ⟨f - 1, by omega⟩
    have e : v = 5 * C := by omega
    subst e
    rw [LGX11_digest_113, e2 _, bnd, z10, if_pos ((zN_le (by omega) (by omega)).mpr (Nat.le_refl _))]
  | succ d ih =>
    intro v f hv hf
    obtain ⟨f, rfl⟩ : ∃ f1, f = f1 + 1 := ⟨f - 1, by omega⟩
    obtain ⟨m1, m2⟩ := z_mod (v := v) (m := 5) (by omega) (by omega)
    have m1' : zI (v : Int) / 5 = zI ((v / 5 : Nat) : Int) := m1
    have m2' : zI (v : Int) - zI (v : Int) / 5 * 5 = zI ((v % 5 : Nat) : Int) := m2
    rw [LGX11_digest_113, e2 _, bnd, z10, if_neg (fun y => by have := (zN_le (by omega) (by omega)).mp y; omega), n10, bnd, bnd, m2', m1', A v _ (by omega), bnd, g_mixJ, bnd, zN_add1]
    exact ih (v + 1) f (by omega) (by omega)
theorem g_dg146 {N : MS} {F : Nat → Int32} {C W : Nat} (h : Int64) (hC : C ≤ 480) (hW : W ≤ 60) (hW2 : 12 ≤ W) (e1 : mA N 0 2041 = zI W) (e2 : mF N 17 = zI C) (A : ∀ (v : Nat) (y : Int64), v < W * C → g_X11_byteAt (eJ N y) (zI ((v / W : Nat) : Int)) (zI ((v % W : Nat) : Int)) = some (F v)) : ∀ (d v f : Nat), v + d = W * C → d < f → LGX11_digest_146 f (zI v) (eJ N (mixF F v h)) = some (eJ N (mixF F (W * C) h)) := by
  have h41 : ix (2041 : Int32) 2046 = some 2041 := rfl
  have hb : W * C ≤ 60 * 480 := Nat.mul_le_mul hW hC
  have nzW : nz (zI (W : Int)) = some (zI W) := nz_z (by omega) (by omega)
  intro d
  induction d with
  | zero =>
    intro v f hv hf
    obtain ⟨f, rfl⟩ : ∃ f1, f = f1 + 1 := ⟨f - 1, by omega⟩
    have e : v = W * C := by omega
    subst e
    rw [LGX11_digest_146, h41, bnd, mA_eJ, mF_eJ, e1, e2, zN_mul, if_pos ((zN_le (by omega) (by omega)).mpr (Nat.le_refl _))]
  | succ d ih =>
    intro v f hv hf
    obtain ⟨f, rfl⟩ : ∃ f1, f = f1 + 1 := ⟨f - 1, by omega⟩
    obtain ⟨m1, m2⟩ := z_mod (v := v) (m := W) (by omega) (by omega)
    have ew : mA (eJ N (mixF F v h)) 0 2041 = zI W := e1
    rw [LGX11_digest_146, h41, bnd, ew, mF_eJ, e2, zN_mul, if_neg (fun y => by have := (zN_le (by omega) (by omega)).mp y; omega), bnd, ew, nzW, bnd, bnd, ew, nzW, bnd, m2, m1, A v _ (by omega), bnd, g_mixJ, bnd, zN_add1]
    exact ih (v + 1) f (by omega) (by omega)
theorem g_dg200 {N : MS} {F : Nat → Int32} {C : Nat} (h : Int64) (hC : C ≤ 1000) (e2 : ∀ y : Int64, g_X11_stanzas (eJ N y) = some (zI C)) (A : ∀ (v : Nat) (y : Int64), v < C → g_X11_nearest (eJ N y) (zI v) = some (F v)) : ∀ (d v f : Nat), v + d = C → d < f → LGX11_digest_200 f (zI v) (eJ N (mixF F v h)) = some (eJ N (mixF F C h)) := by
  intro d
  induction d with
  | zero =>
    intro v f hv hf
    obtain ⟨f, rfl⟩ : ∃ f1, f = f1 + 1 := ⟨f - 1, by omega⟩
    have e : v = C := by omega
    subst e
    rw [LGX11_digest_200, e2 _, bnd, if_pos ((zN_le (by omega) (by omega)).mpr (Nat.le_refl _))]
  | succ d ih =>
    intro v f hv hf
    obtain ⟨f, rfl⟩ : ∃ f1, f = f1 + 1 := ⟨f - 1, by omega⟩
    rw [LGX11_digest_200, e2 _, bnd, if_neg (fun y => by have := (zN_le (by omega) (by omega)).mp y; omega), A v _ (by omega), bnd, g_mixJ, bnd, zN_add1]
    exact ih (v + 1) f (by omega) (by omega)
theorem g_dg226 {N : MS} {T : Nat → Int32} {n : Nat} (h : Int64) (ht : MT N T n) : ∀ (d v f : Nat), v + d = n → d < f → LGX11_digest_226 f (zI v) (eJ N (mixF T v h)) = some (eJ N (mixF T n h)) := by
  have hn := ht.1
  intro d
  induction d with
  | zero =>
    intro v f hv hf
    obtain ⟨f, rfl⟩ : ∃ f1, f = f1 + 1 := ⟨f - 1, by omega⟩
    have e : v = n := by omega
    subst e
    rw [LGX11_digest_226, mF_eJ, ht.2.1, if_pos ((zN_le (by omega) (by omega)).mpr (Nat.le_refl _))]
  | succ d ih =>
    intro v f hv hf
    obtain ⟨f, rfl⟩ : ∃ f1, f = f1 + 1 := ⟨f - 1, by omega⟩
    rw [LGX11_digest_226, mF_eJ, ht.2.1, if_neg (fun y => by have := (zN_le (by omega) (by omega)).mp y; omega), ix_l _ _ (by omega) (by omega), bnd, mA_eJ, ht.2.2.1 v (by omega), g_mixJ, bnd, zN_add1]
    exact ih (v + 1) f (by omega) (by omega)
theorem g_z13 {N : MS} {F : Nat → Int32} (h : Int64) (A : ∀ (j : Nat) (y : Int64), j < 16 → g_X11_number (eJ N y) (zI j) = some (F j)) : LGX11_digest_13 FU 0 (eJ N h) = some (eJ N (mixF F 16 h)) := g_dg13 h A 16 0 FU rfl (by simp only [FU]; omega)
theorem g_z37 {N : MS} {F : Nat → Int32} {C : Nat} (h : Int64) (hC : C ≤ 1000) (e2 : mA N 0 2040 = zI C) (A : ∀ (v : Nat) (y : Int64), v < 10 * C → g_X11_linePart (eJ N y) (zI ((v / 10 : Nat) : Int)) (zI ((v % 10 : Nat) : Int)) = some (F v)) : LGX11_digest_37 FU 0 (eJ N h) = some (eJ N (mixF F (10 * C) h)) := g_dg37 h hC e2 A (10 * C) 0 FU (by omega) (by simp only [FU]; omega)
theorem g_z77 {N : MS} {F : Nat → Int32} {C : Nat} (h : Int64) (hC : C ≤ 1000) (e2 : mF N 17 = zI C) (A : ∀ (v : Nat) (y : Int64), v < 9 * C → g_X11_rowPart (eJ N y) (zI ((v / 9 : Nat) : Int)) (zI ((v % 9 : Nat) : Int)) = some (F v)) : LGX11_digest_77 FU 0 (eJ N h) = some (eJ N (mixF F (9 * C) h)) := g_dg77 h hC e2 A (9 * C) 0 FU (by omega) (by simp only [FU]; omega)
theorem g_z113 {N : MS} {F : Nat → Int32} {C : Nat} (h : Int64) (hC : C ≤ 1000) (e2 : ∀ y : Int64, g_X11_pages (eJ N y) = some (zI C)) (A : ∀ (v : Nat) (y : Int64), v < 5 * C → g_X11_pagePart (eJ N y) (zI ((v / 5 : Nat) : Int)) (zI ((v % 5 : Nat) : Int)) = some (F v)) : LGX11_digest_113 FU 0 (eJ N h) = some (eJ N (mixF F (5 * C) h)) := g_dg113 h hC e2 A (5 * C) 0 FU (by omega) (by simp only [FU]; omega)
theorem g_z146 {N : MS} {F : Nat → Int32} {C W : Nat} (h : Int64) (hC : C ≤ 480) (hW : W ≤ 60) (hW2 : 12 ≤ W) (e1 : mA N 0 2041 = zI W) (e2 : mF N 17 = zI C) (A : ∀ (v : Nat) (y : Int64), v < W * C → g_X11_byteAt (eJ N y) (zI ((v / W : Nat) : Int)) (zI ((v % W : Nat) : Int)) = some (F v)) : LGX11_digest_146 FU 0 (eJ N h) = some (eJ N (mixF F (W * C) h)) := g_dg146 h hC hW hW2 e1 e2 A (W * C) 0 FU (by omega) (by have hb : W * C ≤ 60 * 480 := Nat.mul_le_mul hW hC; simp only [FU]; omega)
theorem g_z200 {N : MS} {F : Nat → Int32} {C : Nat} (h : Int64) (hC : C ≤ 1000) (e2 : ∀ y : Int64, g_X11_stanzas (eJ N y) = some (zI C)) (A : ∀ (v : Nat) (y : Int64), v < C → g_X11_nearest (eJ N y) (zI v) = some (F v)) : LGX11_digest_200 FU 0 (eJ N h) = some (eJ N (mixF F C h)) := g_dg200 h hC e2 A C 0 FU (by omega) (by simp only [FU]; omega)
theorem g_z226 {N : MS} {T : Nat → Int32} {n : Nat} (h : Int64) (ht : MT N T n) : LGX11_digest_226 FU 0 (eJ N h) = some (eJ N (mixF T n h)) := g_dg226 h ht n 0 FU (by omega) (by have := ht.1; simp only [FU]; omega)
theorem eJ_self (N : MS) {x : Int64} (h : mJ N = x) : N = eJ N x := by
  subst h; rfl
theorem g_digestR {M : MS} {P : PoT} {hs : Nat → PoT} {c : Nat} {T : Nat → Int32} {n : Nat} (h : MI M P hs c T n) (hps : Pos P (P.2.2 0) (P.2.2 1)) :
    ∃ N, g_X11_digest M = some (dg7 P (P.2.2 0) (P.2.2 1) c T n, N) ∧ MI N P hs c T n := by
  have ho := h.2.1
  obtain ⟨s1, s2, s3, s4, s5, s6, s7⟩ := ho.2.2
  have h24 := ho.1
  have hz := (szN_le P P.2.1).1
  have h480 := rwN_le ho s1 s2
  obtain ⟨N, d1, d2, d3, d4⟩ := g_drawn (MI_J h 805)
  have eN : N = eJ N 805 := eJ_self N d4.2.2
  obtain ⟨pg, pgl⟩ := g_pagesR ho s1 s2 s3 d2.2.2.1.1 d2.2.2.2.1
  have hr : ∀ y : Int64, RM (eJ N y) (layA P (P.2.2 0) P.2.1) := fun y => RM_J d2.2.2.1.1 y
  have hq : ∀ y : Int64, QM (eJ N y) (pagQ P (P.2.2 0) (P.2.2 1) P.2.1) (layA P (P.2.2 0) P.2.1).1 := fun y => QM_J d2.2.2.2.1 y
  have a1 := g_z13 (N := N) (F := dcF P (P.2.2 0) (P.2.2 1) c n) 805 (fun j y hj => g_number (MI_J d3 y) (ND_J d2 y) hps hj)
  have a2 := g_z37 (N := N) (F := dlF P (P.2.2 0)) (dg1 P (P.2.2 0) (P.2.2 1) c n) (show P.2.1 ≤ 1000 by omega) (PM_n d2.1) (fun v y hv => g_linePart (PM_J d2.1 y) ho (DM_J d2.2.2.1 y) (by omega) (by omega))
  have a3 := g_z77 (N := N) (F := drF P (P.2.2 0) (P.2.2 1)) (dg2 P (P.2.2 0) (P.2.2 1) c n) (show rwN P (P.2.2 0) ≤ 1000 by omega) d2.2.2.1.1.1 (fun v y hv => g_rowPart (PM_J d2.1 y) ho s1 s2 (hr y) (hq y) (by omega) (by omega))
  have a4 := g_z113 (N := N) (F := dpF P (P.2.2 0) (P.2.2 1)) (dg3 P (P.2.2 0) (P.2.2 1) c n) (show pgN P (P.2.2 0) (P.2.2 1) ≤ 1000 by omega) (fun y => (g_pagesR ho s1 s2 s3 (hr y) (hq y)).1) (fun v y hv => g_pagePart (PM_J d2.1 y) ho s1 s2 s3 s4 (hr y) (hq y) hps (by omega) (by omega))
  have a5 := g_z146 (N := N) (F := dbF P (P.2.2 0)) (W := P.2.2 0) (C := rwN P (P.2.2 0)) (dg4 P (P.2.2 0) (P.2.2 1) c n) h480 s2 s1 (PM_s d2.1 (i := 0) (by omega)) d2.2.2.1.1.1 (fun v y hv => g_byteAt (PM_J d2.1 y) ho s1 s2 (hr y) (Nat.div_lt_of_lt_mul hv) (by have := Nat.mod_lt v (show P.2.2 0 > 0 by omega); omega))
  have a6 := g_z200 (N := N) (F := dsF P (P.2.2 0)) (dg5 P (P.2.2 0) (P.2.2 1) c n) (show szN P P.2.1 ≤ 1000 by omega) (fun y => g_stanzas (PM_J d2.1 y) ho) (fun v y hv => g_nearest ho s1 s2 (hr y) (DM_J d2.2.2.1 y) hv)
  have a7 := g_z226 (N := N) (dg6 P (P.2.2 0) (P.2.2 1) c n) d3.2.2.2
  have e1 : mixF (dcF P (P.2.2 0) (P.2.2 1) c n) 16 805 = dg1 P (P.2.2 0) (P.2.2 1) c n := by unfold dg1; rfl
  have e2 : mixF (dlF P (P.2.2 0)) (10 * P.2.1) (dg1 P (P.2.2 0) (P.2.2 1) c n) = dg2 P (P.2.2 0) (P.2.2 1) c n := by unfold dg2; rfl
  have e3 : mixF (drF P (P.2.2 0) (P.2.2 1)) (9 * rwN P (P.2.2 0)) (dg2 P (P.2.2 0) (P.2.2 1) c n) = dg3 P (P.2.2 0) (P.2.2 1) c n := by unfold dg3; rfl
  have e4 : mixF (dpF P (P.2.2 0) (P.2.2 1)) (5 * pgN P (P.2.2 0) (P.2.2 1)) (dg3 P (P.2.2 0) (P.2.2 1) c n) = dg4 P (P.2.2 0) (P.2.2 1) c n := by unfold dg4; rfl
  have e5 : mixF (dbF P (P.2.2 0)) (P.2.2 0 * rwN P (P.2.2 0)) (dg4 P (P.2.2 0) (P.2.2 1) c n) = dg5 P (P.2.2 0) (P.2.2 1) c n := by unfold dg5; rfl
  have e6 : mixF (dsF P (P.2.2 0)) (szN P P.2.1) (dg5 P (P.2.2 0) (P.2.2 1) c n) = dg6 P (P.2.2 0) (P.2.2 1) c n := by unfold dg6; rfl
  have e7 : mixF T n (dg6 P (P.2.2 0) (P.2.2 1) c n) = dg7 P (P.2.2 0) (P.2.2 1) c T n := by unfold dg7; rfl
  rw [e1] at a1
  rw [e2] at a2
  rw [e3] at a3
  rw [e4] at a4
  rw [e5] at a5
  rw [e6] at a6
  rw [e7] at a7
  rw [← eN] at a1
  refine ⟨eJ N (dg7 P (P.2.2 0) (P.2.2 1) c T n), ?_, MI_J d3 _⟩
  rw [g_X11_digest, d1, bnd, a1, bnd, a2, bnd, a3, bnd, a4, bnd, a5, bnd, a6, bnd, a7, bnd]; rfl

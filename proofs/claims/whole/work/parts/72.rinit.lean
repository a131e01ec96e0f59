def lnR : List Nat := [2046, 16368, 80, 85, 960, 960, 960, 960, 960, 960, 960, 960, 24, 24, 24, 24]
def rfR : List Nat := [352, 353, 355, 359, 361, 362, 363, 364, 365, 366, 367, 368, 370, 371, 372, 373]
/-- k of the reference's arrays are there -/
def AL (σ : St) (y k : Nat) (s : St) : Prop := (hpN s = y + 1 + k ∧ hpC s = hpC σ + k ∧ hpS s ≤ hpS σ + 16368 * k) ∧ GN y σ s ∧ hpK s y = 11 ∧ (∀ f, hpI s f y = hpI σ f y) ∧ ∀ d, d < k → hpR s (rfR.getD d 0) y = some (y + 1 + d) ∧ hpK s (y + 1 + d) = 13 ∧ hpL s (y + 1 + d) = lnR.getD d 0 ∧ ∀ j, hpA s (y + 1 + d) j = 0
theorem rfR_ne : ∀ k, k < 16 → ∀ d, d < k → rfR.getD d 0 ≠ rfR.getD k 0 := by decide
theorem lnR_le : ∀ k, k < 16 → lnR.getD k 0 ≤ 16368 := by decide
theorem al_step {σ s : St} {y k n f : Nat} (A : AL σ y k s) (hN : hpN σ = y + 1) (hk : k < 16) (c1 : hpC σ + 16 ≤ NX) (c2 : hpS σ + 261888 ≤ SX) (en : lnR.getD k 0 = n) (ef : rfR.getD k 0 = f) : nwA s 13 (zI (n : Int)) = some (nw s 13 n n) ∧ dn (nw s 13 n n) 11 (some y) = some y ∧ AL σ y (k + 1) (stR (nw s 13 n n) f y (some (hpN s))) := by
  obtain ⟨⟨A1, A2, A3⟩, A4, A5, A6, A7⟩ := A
  have hl : n ≤ 16368 := by rw [← en]; exact lnR_le k hk
  have e11 : hpK (nw s 13 n n) y = 11 := by rw [hpK_nw, if_neg (by omega)]; exact A5
  refine ⟨nwA_ok (by omega) (by omega) (by omega), dn_eq e11, ⟨by rw [hpN_stR, hpN_nw]; omega, by rw [hpC_stR, hpC_nw]; omega, by rw [hpS_stR, hpS_nw]; omega⟩, GN_trans A4 (GN_trans (GN_nw y s 13 n n) (GN_stR y _ _ _) (by rw [hpN_nw]; omega) (.inl rfl)) (by omega) (.inl rfl), e11, fun f1 => ?_, fun d hd => ?_⟩
  · rw [hpI_stR, hpI_nw, if_neg (by omega)]; exact A6 f1
  · by_cases q : d = k
    · subst q
      have e : y + 1 + d = hpN s := A1.symm
      refine ⟨by rw [hpR_stR, ef, if_pos ⟨rfl, rfl⟩, e], by rw [hpK_stR, hpK_nw, if_pos e], by rw [hpL_stR, hpL_nw, if_pos e, en], fun j => by rw [hpA_stR, hpA_nw, if_pos e]⟩
    · have hd2 : d < k := by omega
      obtain ⟨B1, B2, B3, B4⟩ := A7 d hd2
      have ne : y + 1 + d ≠ hpN s := by omega
      have nr : rfR.getD d 0 ≠ f := by rw [← ef]; exact rfR_ne k hk d hd2
      refine ⟨by rw [hpR_stR, if_neg (fun z => nr z.1), hpR_nw, if_neg (by omega)]; exact B1, by rw [hpK_stR, hpK_nw, if_neg ne]; exact B2, by rw [hpL_stR, hpL_nw, if_neg ne]; exact B3, fun j => by rw [hpA_stR, hpA_nw, if_neg ne]; exact B4 j⟩
theorem AL_c {σ s : St} {y d f n b : Nat} (A : AL σ y 16 s) (hd : d < 16) (ef : rfR.getD d 0 = f) (en : lnR.getD d 0 = n) (hb : y + 1 + d = b) : hpR s f y = some b ∧ hpK s b = 13 ∧ hpL s b = n := by
  subst hb ef en
  have := A.2.2.2.2 d hd
  exact ⟨this.1, this.2.1, this.2.2.1⟩
theorem AL_MR {σ s : St} {y : Nat} (A : AL σ y 16 s) : MR s y := ⟨A.2.2.1, AL_c (d := 0) (f := 352) (n := 2046) A (by decide) rfl rfl (by omega), AL_c (d := 1) (f := 353) (n := 16368) A (by decide) rfl rfl (by omega), AL_c (d := 2) (f := 355) (n := 80) A (by decide) rfl rfl (by omega), AL_c (d := 3) (f := 359) (n := 85) A (by decide) rfl rfl (by omega), AL_c (d := 4) (f := 361) (n := 960) A (by decide) rfl rfl (by omega), AL_c (d := 5) (f := 362) (n := 960) A (by decide) rfl rfl (by omega), AL_c (d := 6) (f := 363) (n := 960) A (by decide) rfl rfl (by omega), AL_c (d := 7) (f := 364) (n := 960) A (by decide) rfl rfl (by omega), AL_c (d := 8) (f := 365) (n := 960) A (by decide) rfl rfl (by omega), AL_c (d := 9) (f := 366) (n := 960) A (by decide) rfl rfl (by omega), AL_c (d := 10) (f := 367) (n := 960) A (by decide) rfl rfl (by omega), AL_c (d := 11) (f := 368) (n := 960) A (by decide) rfl rfl (by omega), AL_c (d := 12) (f := 370) (n := 24) A (by decide) rfl rfl (by omega), AL_c (d := 13) (f := 371) (n := 24) A (by decide) rfl rfl (by omega), AL_c (d := 14) (f := 372) (n := 24) A (by decide) rfl rfl (by omega), AL_c (d := 15) (f := 373) (n := 24) A (by decide) rfl rfl (by omega)⟩
theorem MR_stA {s : St} {y : Nat} (h : MR s y) (a j : Nat) (v : Int32) : MR (stA s a j v) y := h
theorem dn_stA (s : St) (a j : Nat) (v : Int32) (k : Nat) (z : Option Nat) : dn (stA s a j v) k z = dn s k z := rfl
theorem GN_stA (t : Nat) (s : St) (a j : Nat) (v : Int32) (h : hpN s ≤ a ∨ a = t) : GN t s (stA s a j v) :=
  ⟨fun b hb => ⟨rfl, fun q => ⟨rfl, rfl, fun _ => rfl, fun i => by rw [hpA_stA, if_neg (fun y => by have := y.1; omega)], fun _ => rfl, fun _ => rfl⟩⟩, fun _ => rfl⟩
def RIQ (σ : St) (y : Nat) (τ : St) : Prop := hpN τ = y + 17 ∧ hpC τ = hpC σ + 16 ∧ hpS τ ≤ hpS σ + 261888 ∧ (∀ a, a < y → sam σ τ a) ∧ (∀ i, hpG τ i = hpG σ i) ∧ MR τ y ∧ (∀ f, hpI τ f y = 0) ∧ hpA τ (y + 1) 2040 = zI ((0 : Nat) : Int) ∧ ∀ i, i < 5 → hpA τ (y + 1) (2041 + i) = zI (sIn i)
def KR20 (a : Nat) (s : St) : Option St := (dn s 13 (hpR s 352 a)).bind fun b => (ix 2045 (hpL s b)).bind fun j => some (stA s b j 6)
def KR19 (a : Nat) (s : St) : Option St := (dn s 13 (hpR s 352 a)).bind fun b => (ix 2044 (hpL s b)).bind fun j => KR20 a (stA s b j 4)
def KR18 (a : Nat) (s : St) : Option St := (dn s 13 (hpR s 352 a)).bind fun b => (ix 2043 (hpL s b)).bind fun j => KR19 a (stA s b j 2)
def KR17 (a : Nat) (s : St) : Option St := (dn s 13 (hpR s 352 a)).bind fun b => (ix 2042 (hpL s b)).bind fun j => KR18 a (stA s b j 12)
def KR16 (a : Nat) (s : St) : Option St := (dn s 13 (hpR s 352 a)).bind fun b => (ix 2041 (hpL s b)).bind fun j => KR17 a (stA s b j 30)
def KR15 (y : Nat) (s : St) : Option St := (nwA s 13 24).bind fun u => (dn u 11 (some y)).bind fun a => KR16 a (stR u 373 a (some (hpN s)))
def KR14 (y : Nat) (s : St) : Option St := (nwA s 13 24).bind fun u => (dn u 11 (some y)).bind fun a => KR15 y (stR u 372 a (some (hpN s)))
def KR13 (y : Nat) (s : St) : Option St := (nwA s 13 24).bind fun u => (dn u 11 (some y)).bind fun a => KR14 y (stR u 371 a (some (hpN s)))
def KR12 (y : Nat) (s : St) : Option St := (nwA s 13 24).bind fun u => (dn u 11 (some y)).bind fun a => KR13 y (stR u 370 a (some (hpN s)))
def KR11 (y : Nat) (s : St) : Option St := (nwA s 13 960).bind fun u => (dn u 11 (some y)).bind fun a => KR12 y (stR u 368 a (some (hpN s)))
def KR10 (y : Nat) (s : St) : Option St := (nwA s 13 960).bind fun u => (dn u 11 (some y)).bind fun a => KR11 y (stR u 367 a (some (hpN s)))
def KR9 (y : Nat) (s : St) : Option St := (nwA s 13 960).bind fun u => (dn u 11 (some y)).bind fun a => KR10 y (stR u 366 a (some (hpN s)))
def KR8 (y : Nat) (s : St) : Option St := (nwA s 13 960).bind fun u => (dn u 11 (some y)).bind fun a => KR9 y (stR u 365 a (some (hpN s)))
def KR7 (y : Nat) (s : St) : Option St := (nwA s 13 960).bind fun u => (dn u 11 (some y)).bind fun a => KR8 y (stR u 364 a (some (hpN s)))
def KR6 (y : Nat) (s : St) : Option St := (nwA s 13 960).bind fun u => (dn u 11 (some y)).bind fun a => KR7 y (stR u 363 a (some (hpN s)))
def KR5 (y : Nat) (s : St) : Option St := (nwA s 13 960).bind fun u => (dn u 11 (some y)).bind fun a => KR6 y (stR u 362 a (some (hpN s)))
def KR4 (y : Nat) (s : St) : Option St := (nwA s 13 960).bind fun u => (dn u 11 (some y)).bind fun a => KR5 y (stR u 361 a (some (hpN s)))
def KR3 (y : Nat) (s : St) : Option St := (nwA s 13 85).bind fun u => (dn u 11 (some y)).bind fun a => KR4 y (stR u 359 a (some (hpN s)))
def KR2 (y : Nat) (s : St) : Option St := (nwA s 13 80).bind fun u => (dn u 11 (some y)).bind fun a => KR3 y (stR u 355 a (some (hpN s)))
def KR1 (y : Nat) (s : St) : Option St := (nwA s 13 16368).bind fun u => (dn u 11 (some y)).bind fun a => KR2 y (stR u 353 a (some (hpN s)))
def KR0 (y : Nat) (s : St) : Option St := (nwA s 13 2046).bind fun u => (dn u 11 (some y)).bind fun a => KR1 y (stR u 352 a (some (hpN s)))
theorem f_X11_KR (σ : St) (y : Nat) : f_X11_init σ y = KR0 y σ := rfl
theorem kr_16 {σ s : St} {y : Nat} (A : AL σ y 16 s) (h2 : hpN σ = y + 1) (h3 : ∀ f, hpI σ f y = 0) : ∃ τ, KR16 y s = some τ ∧ RIQ σ y τ := by
  have MR0 := AL_MR A
  obtain ⟨⟨B1, B2, B3⟩, B4, B5, B6, B7⟩ := A
  have R := B7 0 (by decide)
  have R1 : hpR s 352 y = some (y + 1) := R.1
  have K1 : hpK s (y + 1) = 13 := R.2.1
  have L1 : hpL s (y + 1) = 2046 := R.2.2.1
  have Z1 : ∀ j, hpA s (y + 1) j = 0 := R.2.2.2
  have i1 : ix (2041 : Int32) 2046 = some 2041 := rfl
  have i2 : ix (2042 : Int32) 2046 = some 2042 := rfl
  have i3 : ix (2043 : Int32) 2046 = some 2043 := rfl
  have i4 : ix (2044 : Int32) 2046 = some 2044 := rfl
  have i5 : ix (2045 : Int32) 2046 = some 2045 := rfl
  rw [KR16, R1, dn_eq K1, bnd, L1, i1, bnd, KR17, dn_stA, hpR_stA, R1, dn_eq K1, bnd, hpL_stA, L1, i2, bnd, KR18, dn_stA, dn_stA, hpR_stA, hpR_stA, R1, dn_eq K1, bnd, hpL_stA, hpL_stA, L1, i3, bnd, KR19, dn_stA, dn_stA, dn_stA, hpR_stA, hpR_stA, hpR_stA, R1, dn_eq K1, bnd, hpL_stA, hpL_stA, hpL_stA, L1, i4, bnd, KR20, dn_stA, dn_stA, dn_stA, dn_stA, hpR_stA, hpR_stA, hpR_stA, hpR_stA, R1, dn_eq K1, bnd, hpL_stA, hpL_stA, hpL_stA, hpL_stA, L1, i5, bnd]
  have MRs := MR_stA (MR_stA (MR_stA (MR_stA (MR_stA MR0 (y + 1) 2041 30) (y + 1) 2042 12) (y + 1) 2043 2) (y + 1) 2044 4) (y + 1) 2045 6
  refine ⟨_, rfl, B1, B2, B3, fun a ha => ?_, fun i => B4.2 i, MRs, fun f => (B6 f).trans (h3 f), ?_, fun i hi => ?_⟩
  · have q := (B4.1 a (by omega)).2 (by omega)
    refine ⟨q.1, q.2.1, q.2.2.1, fun j => ?_, q.2.2.2.2.1, q.2.2.2.2.2⟩
    have ne : ∀ j1 : Nat, ¬ (a = y + 1 ∧ j = j1) := fun j1 z => by omega
    rw [hpA_stA, if_neg (ne _), hpA_stA, if_neg (ne _), hpA_stA, if_neg (ne _), hpA_stA, if_neg (ne _), hpA_stA, if_neg (ne _)]
    exact q.2.2.2.1 j
  · have ne : ∀ j1 : Nat, 2041 ≤ j1 → ¬ (y + 1 = y + 1 ∧ 2040 = j1) := fun j1 z w => by omega
    rw [hpA_stA, if_neg (ne _ (by decide)), hpA_stA, if_neg (ne _ (by decide)), hpA_stA, if_neg (ne _ (by decide)), hpA_stA, if_neg (ne _ (by decide)), hpA_stA, if_neg (ne _ (by decide))]
    exact Z1 2040
  · have : i = 0 ∨ i = 1 ∨ i = 2 ∨ i = 3 ∨ i = 4 := by omega
    have ne : ∀ j1 j2 : Nat, j2 ≠ j1 → ¬ (y + 1 = y + 1 ∧ j2 = j1) := fun j1 j2 z w => z w.2
    rcases this with q | q | q | q | q <;> subst q
    · rw [hpA_stA, if_neg (ne _ _ (by decide)), hpA_stA, if_neg (ne _ _ (by decide)), hpA_stA, if_neg (ne _ _ (by decide)), hpA_stA, if_neg (ne _ _ (by decide)), hpA_stA, if_pos ⟨rfl, rfl⟩]; rfl
    · rw [hpA_stA, if_neg (ne _ _ (by decide)), hpA_stA, if_neg (ne _ _ (by decide)), hpA_stA, if_neg (ne _ _ (by decide)), hpA_stA, if_pos ⟨rfl, rfl⟩]; rfl
    · rw [hpA_stA, if_neg (ne _ _ (by decide)), hpA_stA, if_neg (ne _ _ (by decide)), hpA_stA, if_pos ⟨rfl, rfl⟩]; rfl
    · rw [hpA_stA, if_neg (ne _ _ (by decide)), hpA_stA, if_pos ⟨rfl, rfl⟩]; rfl
    · rw [hpA_stA, if_pos ⟨rfl, rfl⟩]; rfl
theorem kr_15 {σ s : St} {y : Nat} (A : AL σ y 15 s) (h2 : hpN σ = y + 1) (c1 : hpC σ + 16 ≤ NX) (c2 : hpS σ + 261888 ≤ SX) (h3 : ∀ f, hpI σ f y = 0) : ∃ τ, KR15 y s = some τ ∧ RIQ σ y τ := by
  obtain ⟨u, v, B⟩ := al_step (n := 24) (f := 373) A h2 (by decide) c1 c2 rfl rfl
  have w : nwA s 13 24 = some (nw s 13 24 24) := u
  rw [KR15, w, bnd, v, bnd]
  exact kr_16 B h2 h3
theorem kr_14 {σ s : St} {y : Nat} (A : AL σ y 14 s) (h2 : hpN σ = y + 1) (c1 : hpC σ + 16 ≤ NX) (c2 : hpS σ + 261888 ≤ SX) (h3 : ∀ f, hpI σ f y = 0) : ∃ τ, KR14 y s = some τ ∧ RIQ σ y τ := by
  obtain ⟨u, v, B⟩ := al_step (n := 24) (f := 372) A h2 (by decide) c1 c2 rfl rfl
  have w : nwA s 13 24 = some (nw s 13 24 24) := u
  rw [KR14, w, bnd, v, bnd]
  exact kr_15 B h2 c1 c2 h3
theorem kr_13 {σ s : St} {y : Nat} (A : AL σ y 13 s) (h2 : hpN σ = y + 1) (c1 : hpC σ + 16 ≤ NX) (c2 : hpS σ + 261888 ≤ SX) (h3 : ∀ f, hpI σ f y = 0) : ∃ τ, KR13 y s = some τ ∧ RIQ σ y τ := by
  obtain ⟨u, v, B⟩ := al_step (n := 24) (f := 371) A h2 (by decide) c1 c2 rfl rfl
  have w : nwA s 13 24 = some (nw s 13 24 24) := u
  rw [KR13, w, bnd, v, bnd]
  exact kr_14 B h2 c1 c2 h3
theorem kr_12 {σ s : St} {y : Nat} (A : AL σ y 12 s) (h2 : hpN σ = y + 1) (c1 : hpC σ + 16 ≤ NX) (c2 : hpS σ + 261888 ≤ SX) (h3 : ∀ f, hpI σ f y = 0) : ∃ τ, KR12 y s = some τ ∧ RIQ σ y τ := by
  obtain ⟨u, v, B⟩ := al_step (n := 24) (f := 370) A h2 (by decide) c1 c2 rfl rfl
  have w : nwA s 13 24 = some (nw s 13 24 24) := u
  rw [KR12, w, bnd, v, bnd]
  exact kr_13 B h2 c1 c2 h3
theorem kr_11 {σ s : St} {y : Nat} (A : AL σ y 11 s) (h2 : hpN σ = y + 1) (c1 : hpC σ + 16 ≤ NX) (c2 : hpS σ + 261888 ≤ SX) (h3 : ∀ f, hpI σ f y = 0) : ∃ τ, KR11 y s = some τ ∧ RIQ σ y τ := by
  obtain ⟨u, v, B⟩ := al_step (n := 960) (f := 368) A h2 (by decide) c1 c2 rfl rfl
  have w : nwA s 13 960 = some (nw s 13 960 960) := u
  rw [KR11, w, bnd, v, bnd]
  exact kr_12 B h2 c1 c2 h3
theorem kr_10 {σ s : St} {y : Nat} (A : AL σ y 10 s) (h2 : hpN σ = y + 1) (c1 : hpC σ + 16 ≤ NX) (c2 : hpS σ + 261888 ≤ SX) (h3 : ∀ f, hpI σ f y = 0) : ∃ τ, KR10 y s = some τ ∧ RIQ σ y τ := by
  obtain ⟨u, v, B⟩ := al_step (n := 960) (f := 367) A h2 (by decide) c1 c2 rfl rfl
  have w : nwA s 13 960 = some (nw s 13 960 960) := u
  rw [KR10, w, bnd, v, bnd]
  exact kr_11 B h2 c1 c2 h3
theorem kr_9 {σ s : St} {y : Nat} (A : AL σ y 9 s) (h2 : hpN σ = y + 1) (c1 : hpC σ + 16 ≤ NX) (c2 : hpS σ + 261888 ≤ SX) (h3 : ∀ f, hpI σ f y = 0) : ∃ τ, KR9 y s = some τ ∧ RIQ σ y τ := by
  obtain ⟨u, v, B⟩ := al_step (n := 960) (f := 366) A h2 (by decide) c1 c2 rfl rfl
  have w : nwA s 13 960 = some (nw s 13 960 960) := u
  rw [KR9, w, bnd, v, bnd]
  exact kr_10 B h2 c1 c2 h3
theorem kr_8 {σ s : St} {y : Nat} (A : AL σ y 8 s) (h2 : hpN σ = y + 1) (c1 : hpC σ + 16 ≤ NX) (c2 : hpS σ + 261888 ≤ SX) (h3 : ∀ f, hpI σ f y = 0) : ∃ τ, KR8 y s = some τ ∧ RIQ σ y τ := by
  obtain ⟨u, v, B⟩ := al_step (n := 960) (f := 365) A h2 (by decide) c1 c2 rfl rfl
  have w : nwA s 13 960 = some (nw s 13 960 960) := u
  rw [KR8, w, bnd, v, bnd]
  exact kr_9 B h2 c1 c2 h3
theorem kr_7 {σ s : St} {y : Nat} (A : AL σ y 7 s) (h2 : hpN σ = y + 1) (c1 : hpC σ + 16 ≤ NX) (c2 : hpS σ + 261888 ≤ SX) (h3 : ∀ f, hpI σ f y = 0) : ∃ τ, KR7 y s = some τ ∧ RIQ σ y τ := by
  obtain ⟨u, v, B⟩ := al_step (n := 960) (f := 364) A h2 (by decide) c1 c2 rfl rfl
  have w : nwA s 13 960 = some (nw s 13 960 960) := u
  rw [KR7, w, bnd, v, bnd]
  exact kr_8 B h2 c1 c2 h3
theorem kr_6 {σ s : St} {y : Nat} (A : AL σ y 6 s) (h2 : hpN σ = y + 1) (c1 : hpC σ + 16 ≤ NX) (c2 : hpS σ + 261888 ≤ SX) (h3 : ∀ f, hpI σ f y = 0) : ∃ τ, KR6 y s = some τ ∧ RIQ σ y τ := by
  obtain ⟨u, v, B⟩ := al_step (n := 960) (f := 363) A h2 (by decide) c1 c2 rfl rfl
  have w : nwA s 13 960 = some (nw s 13 960 960) := u
  rw [KR6, w, bnd, v, bnd]
  exact kr_7 B h2 c1 c2 h3
theorem kr_5 {σ s : St} {y : Nat} (A : AL σ y 5 s) (h2 : hpN σ = y + 1) (c1 : hpC σ + 16 ≤ NX) (c2 : hpS σ + 261888 ≤ SX) (h3 : ∀ f, hpI σ f y = 0) : ∃ τ, KR5 y s = some τ ∧ RIQ σ y τ := by
  obtain ⟨u, v, B⟩ := al_step (n := 960) (f := 362) A h2 (by decide) c1 c2 rfl rfl
  have w : nwA s 13 960 = some (nw s 13 960 960) := u
  rw [KR5, w, bnd, v, bnd]
  exact kr_6 B h2 c1 c2 h3
theorem kr_4 {σ s : St} {y : Nat} (A : AL σ y 4 s) (h2 : hpN σ = y + 1) (c1 : hpC σ + 16 ≤ NX) (c2 : hpS σ + 261888 ≤ SX) (h3 : ∀ f, hpI σ f y = 0) : ∃ τ, KR4 y s = some τ ∧ RIQ σ y τ := by
  obtain ⟨u, v, B⟩ := al_step (n := 960) (f := 361) A h2 (by decide) c1 c2 rfl rfl
  have w : nwA s 13 960 = some (nw s 13 960 960) := u
  rw [KR4, w, bnd, v, bnd]
  exact kr_5 B h2 c1 c2 h3
theorem kr_3 {σ s : St} {y : Nat} (A : AL σ y 3 s) (h2 : hpN σ = y + 1) (c1 : hpC σ + 16 ≤ NX) (c2 : hpS σ + 261888 ≤ SX) (h3 : ∀ f, hpI σ f y = 0) : ∃ τ, KR3 y s = some τ ∧ RIQ σ y τ := by
  obtain ⟨u, v, B⟩ := al_step (n := 85) (f := 359) A h2 (by decide) c1 c2 rfl rfl
  have w : nwA s 13 85 = some (nw s 13 85 85) := u
  rw [KR3, w, bnd, v, bnd]
  exact kr_4 B h2 c1 c2 h3
theorem kr_2 {σ s : St} {y : Nat} (A : AL σ y 2 s) (h2 : hpN σ = y + 1) (c1 : hpC σ + 16 ≤ NX) (c2 : hpS σ + 261888 ≤ SX) (h3 : ∀ f, hpI σ f y = 0) : ∃ τ, KR2 y s = some τ ∧ RIQ σ y τ := by
  obtain ⟨u, v, B⟩ := al_step (n := 80) (f := 355) A h2 (by decide) c1 c2 rfl rfl
  have w : nwA s 13 80 = some (nw s 13 80 80) := u
  rw [KR2, w, bnd, v, bnd]
  exact kr_3 B h2 c1 c2 h3
theorem kr_1 {σ s : St} {y : Nat} (A : AL σ y 1 s) (h2 : hpN σ = y + 1) (c1 : hpC σ + 16 ≤ NX) (c2 : hpS σ + 261888 ≤ SX) (h3 : ∀ f, hpI σ f y = 0) : ∃ τ, KR1 y s = some τ ∧ RIQ σ y τ := by
  obtain ⟨u, v, B⟩ := al_step (n := 16368) (f := 353) A h2 (by decide) c1 c2 rfl rfl
  have w : nwA s 13 16368 = some (nw s 13 16368 16368) := u
  rw [KR1, w, bnd, v, bnd]
  exact kr_2 B h2 c1 c2 h3
theorem kr_0 {σ s : St} {y : Nat} (A : AL σ y 0 s) (h2 : hpN σ = y + 1) (c1 : hpC σ + 16 ≤ NX) (c2 : hpS σ + 261888 ≤ SX) (h3 : ∀ f, hpI σ f y = 0) : ∃ τ, KR0 y s = some τ ∧ RIQ σ y τ := by
  obtain ⟨u, v, B⟩ := al_step (n := 2046) (f := 352) A h2 (by decide) c1 c2 rfl rfl
  have w : nwA s 13 2046 = some (nw s 13 2046 2046) := u
  rw [KR0, w, bnd, v, bnd]
  exact kr_1 B h2 c1 c2 h3
theorem i_X11 {σ : St} {y : Nat} (h1 : hpK σ y = 11) (h2 : y + 1 = hpN σ) (h3 : ∀ f, hpI σ f y = 0) (c1 : hpC σ + 16 ≤ NX) (c2 : hpS σ + 261888 ≤ SX) : ∃ τ, f_X11_init σ y = some τ ∧ RIQ σ y τ := by
  rw [f_X11_KR]
  exact kr_0 ⟨⟨h2.symm, rfl, Nat.le_refl _⟩, GN_refl y σ, h1, fun _ => rfl, fun d hd => by omega⟩ h2.symm c1 c2 h3

abbrev MS : Type := (Nat → Int32) × (Nat → Nat → Int32) × Int64
def mF (M : MS) (k : Nat) : Int32 := M.1 k
def mA (M : MS) (r j : Nat) : Int32 := M.2.1 r j
def mJ (M : MS) : Int64 := M.2.2
def eF (M : MS) (k : Nat) (v : Int32) : MS := (fun k1 => if k1 = k then v else M.1 k1, M.2.1, M.2.2)
def eA (M : MS) (r j : Nat) (v : Int32) : MS := (M.1, up2 M.2.1 r j v, M.2.2)
def eJ (M : MS) (v : Int64) : MS := (M.1, M.2.1, v)
theorem mF_eF (M : MS) (k0 : Nat) (v : Int32) (k : Nat) : mF (eF M k0 v) k = if k = k0 then v else mF M k := rfl
theorem mF_eA (M : MS) (r0 j0 : Nat) (v : Int32) (k : Nat) : mF (eA M r0 j0 v) k = mF M k := rfl
theorem mF_eJ (M : MS) (v : Int64) (k : Nat) : mF (eJ M v) k = mF M k := rfl
theorem mA_eF (M : MS) (k0 : Nat) (v : Int32) (r j : Nat) : mA (eF M k0 v) r j = mA M r j := rfl
theorem mA_eA (M : MS) (r0 j0 : Nat) (v : Int32) (r j : Nat) : mA (eA M r0 j0 v) r j = if r = r0 ∧ j = j0 then v else mA M r j := rfl
theorem mA_eJ (M : MS) (v : Int64) (r j : Nat) : mA (eJ M v) r j = mA M r j := rfl
theorem mJ_eF (M : MS) (k0 : Nat) (v : Int32) : mJ (eF M k0 v) = mJ M := rfl
theorem mJ_eA (M : MS) (r0 j0 : Nat) (v : Int32) : mJ (eA M r0 j0 v) = mJ M := rfl
theorem mJ_eJ (M : MS) (v : Int64) : mJ (eJ M v) = v := rfl
theorem msx : (∀ (M : MS) (k0 : Nat) (v : Int32) (k : Nat), mF (eF M k0 v) k = if k = k0 then v else mF M k) ∧ (∀ (M : MS) (r0 j0 : Nat) (v : Int32) (k : Nat), mF (eA M r0 j0 v) k = mF M k) ∧ (∀ (M : MS) (v : Int64) (k : Nat), mF (eJ M v) k = mF M k) ∧ (∀ (M : MS) (k0 : Nat) (v : Int32) (r j : Nat), mA (eF M k0 v) r j = mA M r j) ∧ (∀ (M : MS) (r0 j0 : Nat) (v : Int32) (r j : Nat), mA (eA M r0 j0 v) r j = if r = r0 ∧ j = j0 then v else mA M r j) ∧ (∀ (M : MS) (v : Int64) (r j : Nat), mA (eJ M v) r j = mA M r j) ∧ (∀ (M : MS) (k0 : Nat) (v : Int32), mJ (eF M k0 v) = mJ M) ∧ (∀ (M : MS) (r0 j0 : Nat) (v : Int32), mJ (eA M r0 j0 v) = mJ M) ∧ (∀ (M : MS) (v : Int64), mJ (eJ M v) = v) :=
  ⟨mF_eF, mF_eA, mF_eJ, mA_eF, mA_eA, mA_eJ, mJ_eF, mJ_eA, mJ_eJ⟩
/-- the state σ with the reference's object at t, and its arrays at t + 1 .. t + 16, as M says -/
def ij (σ : St) (t : Nat) (M : MS) : St := (σ.1, σ.2.1, σ.2.2.1, σ.2.2.2.1, σ.2.2.2.2.1, (fun f a => if a = t ∧ 352 ≤ f then M.1 (f - 352) else σ.2.2.2.2.2.1 f a), σ.2.2.2.2.2.2.1, (fun f a => if a = t ∧ f = 377 then M.2.2 else σ.2.2.2.2.2.2.2.1 f a), (fun a j => if t < a ∧ a ≤ t + 16 then M.2.1 (a - t - 1) j else σ.2.2.2.2.2.2.2.2.1 a j), σ.2.2.2.2.2.2.2.2.2.1, σ.2.2.2.2.2.2.2.2.2.2)
theorem bnd {α β : Type} (a : α) (F : α → Option β) : (some a).bind F = F a := by
  have h : (some a).bind F = F a := rfl
  rw [h]
theorem bind_to {α β : Type} {o : Option α} {a : α} {F : α → Option β} {b : β} (h1 : o = some a) (h2 : F a = some b) : o.bind F = some b := by rw [h1]; exact h2
theorem sb_to {α β : Type} {o : Option (α ⊕ β)} {x : α ⊕ β} {F : β → Option α} {b : α} (h1 : o = some x) (h2 : x = .inl b ∨ ∃ w, x = .inr w ∧ F w = some b) : sb o F = some b := by
  subst h1
  rcases h2 with rfl | ⟨w, rfl, h⟩
  · rfl
  · exact h
theorem if_to {α β : Type} {c : Prop} {i1 i2 : Decidable c} {A B : Option α} {x : Option α} {A' B' y : Option β} (h : @ite _ c i1 A B = x) (h1 : c → A = x → A' = y) (h2 : ¬ c → B = x → B' = y) : @ite _ c i2 A' B' = y := by
  by_cases hc : c
  · rw [if_pos hc] at h ⊢; exact h1 hc h
  · rw [if_neg hc] at h ⊢; exact h2 hc h
/-- the shape of the reference's object: kinds, references, lengths -/
def MR (σ : St) (t : Nat) : Prop := hpK σ t = 11 ∧ (hpR σ 352 t = some (t + 1) ∧ hpK σ (t + 1) = 13 ∧ hpL σ (t + 1) = 2046) ∧ (hpR σ 353 t = some (t + 2) ∧ hpK σ (t + 2) = 13 ∧ hpL σ (t + 2) = 16368) ∧ (hpR σ 355 t = some (t + 3) ∧ hpK σ (t + 3) = 13 ∧ hpL σ (t + 3) = 80) ∧ (hpR σ 359 t = some (t + 4) ∧ hpK σ (t + 4) = 13 ∧ hpL σ (t + 4) = 85) ∧ (hpR σ 361 t = some (t + 5) ∧ hpK σ (t + 5) = 13 ∧ hpL σ (t + 5) = 960) ∧ (hpR σ 362 t = some (t + 6) ∧ hpK σ (t + 6) = 13 ∧ hpL σ (t + 6) = 960) ∧ (hpR σ 363 t = some (t + 7) ∧ hpK σ (t + 7) = 13 ∧ hpL σ (t + 7) = 960) ∧ (hpR σ 364 t = some (t + 8) ∧ hpK σ (t + 8) = 13 ∧ hpL σ (t + 8) = 960) ∧ (hpR σ 365 t = some (t + 9) ∧ hpK σ (t + 9) = 13 ∧ hpL σ (t + 9) = 960) ∧ (hpR σ 366 t = some (t + 10) ∧ hpK σ (t + 10) = 13 ∧ hpL σ (t + 10) = 960) ∧ (hpR σ 367 t = some (t + 11) ∧ hpK σ (t + 11) = 13 ∧ hpL σ (t + 11) = 960) ∧ (hpR σ 368 t = some (t + 12) ∧ hpK σ (t + 12) = 13 ∧ hpL σ (t + 12) = 960) ∧ (hpR σ 370 t = some (t + 13) ∧ hpK σ (t + 13) = 13 ∧ hpL σ (t + 13) = 24) ∧ (hpR σ 371 t = some (t + 14) ∧ hpK σ (t + 14) = 13 ∧ hpL σ (t + 14) = 24) ∧ (hpR σ 372 t = some (t + 15) ∧ hpK σ (t + 15) = 13 ∧ hpL σ (t + 15) = 24) ∧ (hpR σ 373 t = some (t + 16) ∧ hpK σ (t + 16) = 13 ∧ hpL σ (t + 16) = 24)
theorem ij_r0 {σ : St} {t : Nat} (R : MR σ t) (M : MS) : hpR (ij σ t M) 352 t = some (t + 1) := (R.2.1).1
theorem ij_d0 {σ : St} {t : Nat} (R : MR σ t) (M : MS) : dn (ij σ t M) 13 (some (t + 1)) = some (t + 1) := dn_eq (σ := ij σ t M) (R.2.1).2.1
theorem ij_e0 {σ : St} {t : Nat} (R : MR σ t) (M : MS) : dnA (ij σ t M) (some (t + 1)) = some (t + 1) := dnA_eq (σ := ij σ t M) (R.2.1).2.1
theorem ij_l0 {σ : St} {t : Nat} (R : MR σ t) (M : MS) : hpL (ij σ t M) (t + 1) = 2046 := (R.2.1).2.2
theorem ij_r1 {σ : St} {t : Nat} (R : MR σ t) (M : MS) : hpR (ij σ t M) 353 t = some (t + 2) := (R.2.2.1).1
theorem ij_d1 {σ : St} {t : Nat} (R : MR σ t) (M : MS) : dn (ij σ t M) 13 (some (t + 2)) = some (t + 2) := dn_eq (σ := ij σ t M) (R.2.2.1).2.1
theorem ij_e1 {σ : St} {t : Nat} (R : MR σ t) (M : MS) : dnA (ij σ t M) (some (t + 2)) = some (t + 2) := dnA_eq (σ := ij σ t M) (R.2.2.1).2.1
theorem ij_l1 {σ : St} {t : Nat} (R : MR σ t) (M : MS) : hpL (ij σ t M) (t + 2) = 16368 := (R.2.2.1).2.2
theorem ij_r2 {σ : St} {t : Nat} (R : MR σ t) (M : MS) : hpR (ij σ t M) 355 t = some (t + 3) := (R.2.2.2.1).1
theorem ij_d2 {σ : St} {t : Nat} (R : MR σ t) (M : MS) : dn (ij σ t M) 13 (some (t + 3)) = some (t + 3) := dn_eq (σ := ij σ t M) (R.2.2.2.1).2.1
theorem ij_e2 {σ : St} {t : Nat} (R : MR σ t) (M : MS) : dnA (ij σ t M) (some (t + 3)) = some (t + 3) := dnA_eq (σ := ij σ t M) (R.2.2.2.1).2.1
theorem ij_l2 {σ : St} {t : Nat} (R : MR σ t) (M : MS) : hpL (ij σ t M) (t + 3) = 80 := (R.2.2.2.1).2.2
theorem ij_r3 {σ : St} {t : Nat} (R : MR σ t) (M : MS) : hpR (ij σ t M) 359 t = some (t + 4) := (R.2.2.2.2.1).1
theorem ij_d3 {σ : St} {t : Nat} (R : MR σ t) (M : MS) : dn (ij σ t M) 13 (some (t + 4)) = some (t + 4) := dn_eq (σ := ij σ t M) (R.2.2.2.2.1).2.1
theorem ij_e3 {σ : St} {t : Nat} (R : MR σ t) (M : MS) : dnA (ij σ t M) (some (t + 4)) = some (t + 4) := dnA_eq (σ := ij σ t M) (R.2.2.2.2.1).2.1
theorem ij_l3 {σ : St} {t : Nat} (R : MR σ t) (M : MS) : hpL (ij σ t M) (t + 4) = 85 := (R.2.2.2.2.1).2.2
theorem ij_r4 {σ : St} {t : Nat} (R : MR σ t) (M : MS) : hpR (ij σ t M) 361 t = some (t + 5) := (R.2.2.2.2.2.1).1
theorem ij_d4 {σ : St} {t : Nat} (R : MR σ t) (M : MS) : dn (ij σ t M) 13 (some (t + 5)) = some (t + 5) := dn_eq (σ := ij σ t M) (R.2.2.2.2.2.1).2.1
theorem ij_e4 {σ : St} {t : Nat} (R : MR σ t) (M : MS) : dnA (ij σ t M) (some (t + 5)) = some (t + 5) := dnA_eq (σ := ij σ t M) (R.2.2.2.2.2.1).2.1
theorem ij_l4 {σ : St} {t : Nat} (R : MR σ t) (M : MS) : hpL (ij σ t M) (t + 5) = 960 := (R.2.2.2.2.2.1).2.2
theorem ij_r5 {σ : St} {t : Nat} (R : MR σ t) (M : MS) : hpR (ij σ t M) 362 t = some (t + 6) := (R.2.2.2.2.2.2.1).1
theorem ij_d5 {σ : St} {t : Nat} (R : MR σ t) (M : MS) : dn (ij σ t M) 13 (some (t + 6)) = some (t + 6) := dn_eq (σ := ij σ t M) (R.2.2.2.2.2.2.1).2.1
theorem ij_e5 {σ : St} {t : Nat} (R : MR σ t) (M : MS) : dnA (ij σ t M) (some (t + 6)) = some (t + 6) := dnA_eq (σ := ij σ t M) (R.2.2.2.2.2.2.1).2.1
theorem ij_l5 {σ : St} {t : Nat} (R : MR σ t) (M : MS) : hpL (ij σ t M) (t + 6) = 960 := (R.2.2.2.2.2.2.1).2.2
theorem ij_r6 {σ : St} {t : Nat} (R : MR σ t) (M : MS) : hpR (ij σ t M) 363 t = some (t + 7) := (R.2.2.2.2.2.2.2.1).1
theorem ij_d6 {σ : St} {t : Nat} (R : MR σ t) (M : MS) : dn (ij σ t M) 13 (some (t + 7)) = some (t + 7) := dn_eq (σ := ij σ t M) (R.2.2.2.2.2.2.2.1).2.1
theorem ij_e6 {σ : St} {t : Nat} (R : MR σ t) (M : MS) : dnA (ij σ t M) (some (t + 7)) = some (t + 7) := dnA_eq (σ := ij σ t M) (R.2.2.2.2.2.2.2.1).2.1
theorem ij_l6 {σ : St} {t : Nat} (R : MR σ t) (M : MS) : hpL (ij σ t M) (t + 7) = 960 := (R.2.2.2.2.2.2.2.1).2.2
theorem ij_r7 {σ : St} {t : Nat} (R : MR σ t) (M : MS) : hpR (ij σ t M) 364 t = some (t + 8) := (R.2.2.2.2.2.2.2.2.1).1
theorem ij_d7 {σ : St} {t : Nat} (R : MR σ t) (M : MS) : dn (ij σ t M) 13 (some (t + 8)) = some (t + 8) := dn_eq (σ := ij σ t M) (R.2.2.2.2.2.2.2.2.1).2.1
theorem ij_e7 {σ : St} {t : Nat} (R : MR σ t) (M : MS) : dnA (ij σ t M) (some (t + 8)) = some (t + 8) := dnA_eq (σ := ij σ t M) (R.2.2.2.2.2.2.2.2.1).2.1
theorem ij_l7 {σ : St} {t : Nat} (R : MR σ t) (M : MS) : hpL (ij σ t M) (t + 8) = 960 := (R.2.2.2.2.2.2.2.2.1).2.2
theorem ij_r8 {σ : St} {t : Nat} (R : MR σ t) (M : MS) : hpR (ij σ t M) 365 t = some (t + 9) := (R.2.2.2.2.2.2.2.2.2.1).1
theorem ij_d8 {σ : St} {t : Nat} (R : MR σ t) (M : MS) : dn (ij σ t M) 13 (some (t + 9)) = some (t + 9) := dn_eq (σ := ij σ t M) (R.2.2.2.2.2.2.2.2.2.1).2.1
theorem ij_e8 {σ : St} {t : Nat} (R : MR σ t) (M : MS) : dnA (ij σ t M) (some (t + 9)) = some (t + 9) := dnA_eq (σ := ij σ t M) (R.2.2.2.2.2.2.2.2.2.1).2.1
theorem ij_l8 {σ : St} {t : Nat} (R : MR σ t) (M : MS) : hpL (ij σ t M) (t + 9) = 960 := (R.2.2.2.2.2.2.2.2.2.1).2.2
theorem ij_r9 {σ : St} {t : Nat} (R : MR σ t) (M : MS) : hpR (ij σ t M) 366 t = some (t + 10) := (R.2.2.2.2.2.2.2.2.2.2.1).1
theorem ij_d9 {σ : St} {t : Nat} (R : MR σ t) (M : MS) : dn (ij σ t M) 13 (some (t + 10)) = some (t + 10) := dn_eq (σ := ij σ t M) (R.2.2.2.2.2.2.2.2.2.2.1).2.1
theorem ij_e9 {σ : St} {t : Nat} (R : MR σ t) (M : MS) : dnA (ij σ t M) (some (t + 10)) = some (t + 10) := dnA_eq (σ := ij σ t M) (R.2.2.2.2.2.2.2.2.2.2.1).2.1
theorem ij_l9 {σ : St} {t : Nat} (R : MR σ t) (M : MS) : hpL (ij σ t M) (t + 10) = 960 := (R.2.2.2.2.2.2.2.2.2.2.1).2.2
theorem ij_r10 {σ : St} {t : Nat} (R : MR σ t) (M : MS) : hpR (ij σ t M) 367 t = some (t + 11) := (R.2.2.2.2.2.2.2.2.2.2.2.1).1
theorem ij_d10 {σ : St} {t : Nat} (R : MR σ t) (M : MS) : dn (ij σ t M) 13 (some (t + 11)) = some (t + 11) := dn_eq (σ := ij σ t M) (R.2.2.2.2.2.2.2.2.2.2.2.1).2.1
theorem ij_e10 {σ : St} {t : Nat} (R : MR σ t) (M : MS) : dnA (ij σ t M) (some (t + 11)) = some (t + 11) := dnA_eq (σ := ij σ t M) (R.2.2.2.2.2.2.2.2.2.2.2.1).2.1
theorem ij_l10 {σ : St} {t : Nat} (R : MR σ t) (M : MS) : hpL (ij σ t M) (t + 11) = 960 := (R.2.2.2.2.2.2.2.2.2.2.2.1).2.2
theorem ij_r11 {σ : St} {t : Nat} (R : MR σ t) (M : MS) : hpR (ij σ t M) 368 t = some (t + 12) := (R.2.2.2.2.2.2.2.2.2.2.2.2.1).1
theorem ij_d11 {σ : St} {t : Nat} (R : MR σ t) (M : MS) : dn (ij σ t M) 13 (some (t + 12)) = some (t + 12) := dn_eq (σ := ij σ t M) (R.2.2.2.2.2.2.2.2.2.2.2.2.1).2.1
theorem ij_e11 {σ : St} {t : Nat} (R : MR σ t) (M : MS) : dnA (ij σ t M) (some (t + 12)) = some (t + 12) := dnA_eq (σ := ij σ t M) (R.2.2.2.2.2.2.2.2.2.2.2.2.1).2.1
theorem ij_l11 {σ : St} {t : Nat} (R : MR σ t) (M : MS) : hpL (ij σ t M) (t + 12) = 960 := (R.2.2.2.2.2.2.2.2.2.2.2.2.1).2.2
theorem ij_r12 {σ : St} {t : Nat} (R : MR σ t) (M : MS) : hpR (ij σ t M) 370 t = some (t + 13) := (R.2.2.2.2.2.2.2.2.2.2.2.2.2.1).1
theorem ij_d12 {σ : St} {t : Nat} (R : MR σ t) (M : MS) : dn (ij σ t M) 13 (some (t + 13)) = some (t + 13) := dn_eq (σ := ij σ t M) (R.2.2.2.2.2.2.2.2.2.2.2.2.2.1).2.1
theorem ij_e12 {σ : St} {t : Nat} (R : MR σ t) (M : MS) : dnA (ij σ t M) (some (t + 13)) = some (t + 13) := dnA_eq (σ := ij σ t M) (R.2.2.2.2.2.2.2.2.2.2.2.2.2.1).2.1
theorem ij_l12 {σ : St} {t : Nat} (R : MR σ t) (M : MS) : hpL (ij σ t M) (t + 13) = 24 := (R.2.2.2.2.2.2.2.2.2.2.2.2.2.1).2.2
theorem ij_r13 {σ : St} {t : Nat} (R : MR σ t) (M : MS) : hpR (ij σ t M) 371 t = some (t + 14) := (R.2.2.2.2.2.2.2.2.2.2.2.2.2.2.1).1
theorem ij_d13 {σ : St} {t : Nat} (R : MR σ t) (M : MS) : dn (ij σ t M) 13 (some (t + 14)) = some (t + 14) := dn_eq (σ := ij σ t M) (R.2.2.2.2.2.2.2.2.2.2.2.2.2.2.1).2.1
theorem ij_e13 {σ : St} {t : Nat} (R : MR σ t) (M : MS) : dnA (ij σ t M) (some (t + 14)) = some (t + 14) := dnA_eq (σ := ij σ t M) (R.2.2.2.2.2.2.2.2.2.2.2.2.2.2.1).2.1
theorem ij_l13 {σ : St} {t : Nat} (R : MR σ t) (M : MS) : hpL (ij σ t M) (t + 14) = 24 := (R.2.2.2.2.2.2.2.2.2.2.2.2.2.2.1).2.2
theorem ij_r14 {σ : St} {t : Nat} (R : MR σ t) (M : MS) : hpR (ij σ t M) 372 t = some (t + 15) := (R.2.2.2.2.2.2.2.2.2.2.2.2.2.2.2.1).1
theorem ij_d14 {σ : St} {t : Nat} (R : MR σ t) (M : MS) : dn (ij σ t M) 13 (some (t + 15)) = some (t + 15) := dn_eq (σ := ij σ t M) (R.2.2.2.2.2.2.2.2.2.2.2.2.2.2.2.1).2.1
theorem ij_e14 {σ : St} {t : Nat} (R : MR σ t) (M : MS) : dnA (ij σ t M) (some (t + 15)) = some (t + 15) := dnA_eq (σ := ij σ t M) (R.2.2.2.2.2.2.2.2.2.2.2.2.2.2.2.1).2.1
theorem ij_l14 {σ : St} {t : Nat} (R : MR σ t) (M : MS) : hpL (ij σ t M) (t + 15) = 24 := (R.2.2.2.2.2.2.2.2.2.2.2.2.2.2.2.1).2.2
theorem ij_r15 {σ : St} {t : Nat} (R : MR σ t) (M : MS) : hpR (ij σ t M) 373 t = some (t + 16) := (R.2.2.2.2.2.2.2.2.2.2.2.2.2.2.2.2).1
theorem ij_d15 {σ : St} {t : Nat} (R : MR σ t) (M : MS) : dn (ij σ t M) 13 (some (t + 16)) = some (t + 16) := dn_eq (σ := ij σ t M) (R.2.2.2.2.2.2.2.2.2.2.2.2.2.2.2.2).2.1
theorem ij_e15 {σ : St} {t : Nat} (R : MR σ t) (M : MS) : dnA (ij σ t M) (some (t + 16)) = some (t + 16) := dnA_eq (σ := ij σ t M) (R.2.2.2.2.2.2.2.2.2.2.2.2.2.2.2.2).2.1
theorem ij_l15 {σ : St} {t : Nat} (R : MR σ t) (M : MS) : hpL (ij σ t M) (t + 16) = 24 := (R.2.2.2.2.2.2.2.2.2.2.2.2.2.2.2.2).2.2
theorem ij_dn {σ : St} {t : Nat} (R : MR σ t) (M : MS) : dn (ij σ t M) 11 (some t) = some t := dn_eq (σ := ij σ t M) R.1
theorem ij_stA (σ : St) (t : Nat) (M : MS) (r j : Nat) (v : Int32) (hr : r < 16) : stA (ij σ t M) (t + (r + 1)) j v = ij σ t (eA M r j v) := by
  simp only [stA, ij, eA, Prod.mk.injEq, true_and, and_true]
  funext a j1
  simp only [up2]
  by_cases h : a = t + (r + 1) ∧ j1 = j
  · rw [if_pos h, if_pos (by omega), if_pos ⟨by omega, h.2⟩]
  · rw [if_neg h]
    by_cases h2 : t < a ∧ a ≤ t + 16
    · rw [if_pos h2, if_pos h2, if_neg (by omega)]
    · rw [if_neg h2, if_neg h2]
theorem ij_stI (σ : St) (t : Nat) (M : MS) (k : Nat) (v : Int32) : stI (ij σ t M) (352 + k) t v = ij σ t (eF M k v) := by
  simp only [stI, ij, eF, Prod.mk.injEq, true_and, and_true]
  funext f a
  simp only [up2]
  by_cases h : f = 352 + k ∧ a = t
  · rw [if_pos h, if_pos (by omega), if_pos (by omega)]
  · rw [if_neg h]
    by_cases h2 : a = t ∧ 352 ≤ f
    · rw [if_pos h2, if_pos h2, if_neg (by omega)]
    · rw [if_neg h2, if_neg h2]
theorem ij_A0 (σ : St) (t : Nat) (M : MS) (j : Nat) : hpA (ij σ t M) (t + 1) j = mA M 0 j := by
  show (if t < t + 1 ∧ t + 1 ≤ t + 16 then M.2.1 (t + 1 - t - 1) j else _) = _
  rw [if_pos (by omega), show t + 1 - t - 1 = 0 by omega]
  rfl
theorem ij_stA0 (σ : St) (t : Nat) (M : MS) (j : Nat) (v : Int32) : stA (ij σ t M) (t + 1) j v = ij σ t (eA M 0 j v) := ij_stA σ t M 0 j v (by omega)
theorem ij_A1 (σ : St) (t : Nat) (M : MS) (j : Nat) : hpA (ij σ t M) (t + 2) j = mA M 1 j := by
  show (if t < t + 2 ∧ t + 2 ≤ t + 16 then M.2.1 (t + 2 - t - 1) j else _) = _
  rw [if_pos (by omega), show t + 2 - t - 1 = 1 by omega]
  rfl
theorem ij_stA1 (σ : St) (t : Nat) (M : MS) (j : Nat) (v : Int32) : stA (ij σ t M) (t + 2) j v = ij σ t (eA M 1 j v) := ij_stA σ t M 1 j v (by omega)
theorem ij_A2 (σ : St) (t : Nat) (M : MS) (j : Nat) : hpA (ij σ t M) (t + 3) j = mA M 2 j := by
  show (if t < t + 3 ∧ t + 3 ≤ t + 16 then M.2.1 (t + 3 - t - 1) j else _) = _
  rw [if_pos (by omega), show t + 3 - t - 1 = 2 by omega]
  rfl
theorem ij_stA2 (σ : St) (t : Nat) (M : MS) (j : Nat) (v : Int32) : stA (ij σ t M) (t + 3) j v = ij σ t (eA M 2 j v) := ij_stA σ t M 2 j v (by omega)
theorem ij_A3 (σ : St) (t : Nat) (M : MS) (j : Nat) : hpA (ij σ t M) (t + 4) j = mA M 3 j := by
  show (if t < t + 4 ∧ t + 4 ≤ t + 16 then M.2.1 (t + 4 - t - 1) j else _) = _
  rw [if_pos (by omega), show t + 4 - t - 1 = 3 by omega]
  rfl
theorem ij_stA3 (σ : St) (t : Nat) (M : MS) (j : Nat) (v : Int32) : stA (ij σ t M) (t + 4) j v = ij σ t (eA M 3 j v) := ij_stA σ t M 3 j v (by omega)
theorem ij_A4 (σ : St) (t : Nat) (M : MS) (j : Nat) : hpA (ij σ t M) (t + 5) j = mA M 4 j := by
  show (if t < t + 5 ∧ t + 5 ≤ t + 16 then M.2.1 (t + 5 - t - 1) j else _) = _
  rw [if_pos (by omega), show t + 5 - t - 1 = 4 by omega]
  rfl
theorem ij_stA4 (σ : St) (t : Nat) (M : MS) (j : Nat) (v : Int32) : stA (ij σ t M) (t + 5) j v = ij σ t (eA M 4 j v) := ij_stA σ t M 4 j v (by omega)
theorem ij_A5 (σ : St) (t : Nat) (M : MS) (j : Nat) : hpA (ij σ t M) (t + 6) j = mA M 5 j := by
  show (if t < t + 6 ∧ t + 6 ≤ t + 16 then M.2.1 (t + 6 - t - 1) j else _) = _
  rw [if_pos (by omega), show t + 6 - t - 1 = 5 by omega]
  rfl
theorem ij_stA5 (σ : St) (t : Nat) (M : MS) (j : Nat) (v : Int32) : stA (ij σ t M) (t + 6) j v = ij σ t (eA M 5 j v) := ij_stA σ t M 5 j v (by omega)
theorem ij_A6 (σ : St) (t : Nat) (M : MS) (j : Nat) : hpA (ij σ t M) (t + 7) j = mA M 6 j := by
  show (if t < t + 7 ∧ t + 7 ≤ t + 16 then M.2.1 (t + 7 - t - 1) j else _) = _
  rw [if_pos (by omega), show t + 7 - t - 1 = 6 by omega]
  rfl
theorem ij_stA6 (σ : St) (t : Nat) (M : MS) (j : Nat) (v : Int32) : stA (ij σ t M) (t + 7) j v = ij σ t (eA M 6 j v) := ij_stA σ t M 6 j v (by omega)
theorem ij_A7 (σ : St) (t : Nat) (M : MS) (j : Nat) : hpA (ij σ t M) (t + 8) j = mA M 7 j := by
  show (if t < t + 8 ∧ t + 8 ≤ t + 16 then M.2.1 (t + 8 - t - 1) j else _) = _
  rw [if_pos (by omega), show t + 8 - t - 1 = 7 by omega]
  rfl
theorem ij_stA7 (σ : St) (t : Nat) (M : MS) (j : Nat) (v : Int32) : stA (ij σ t M) (t + 8) j v = ij σ t (eA M 7 j v) := ij_stA σ t M 7 j v (by omega)
theorem ij_A8 (σ : St) (t : Nat) (M : MS) (j : Nat) : hpA (ij σ t M) (t + 9) j = mA M 8 j := by
  show (if t < t + 9 ∧ t + 9 ≤ t + 16 then M.2.1 (t + 9 - t - 1) j else _) = _
  rw [if_pos (by omega), show t + 9 - t - 1 = 8 by omega]
  rfl
theorem ij_stA8 (σ : St) (t : Nat) (M : MS) (j : Nat) (v : Int32) : stA (ij σ t M) (t + 9) j v = ij σ t (eA M 8 j v) := ij_stA σ t M 8 j v (by omega)
theorem ij_A9 (σ : St) (t : Nat) (M : MS) (j : Nat) : hpA (ij σ t M) (t + 10) j = mA M 9 j := by
  show (if t < t + 10 ∧ t + 10 ≤ t + 16 then M.2.1 (t + 10 - t - 1) j else _) = _
  rw [if_pos (by omega), show t + 10 - t - 1 = 9 by omega]
  rfl
theorem ij_stA9 (σ : St) (t : Nat) (M : MS) (j : Nat) (v : Int32) : stA (ij σ t M) (t + 10) j v = ij σ t (eA M 9 j v) := ij_stA σ t M 9 j v (by omega)
theorem ij_A10 (σ : St) (t : Nat) (M : MS) (j : Nat) : hpA (ij σ t M) (t + 11) j = mA M 10 j := by
  show (if t < t + 11 ∧ t + 11 ≤ t + 16 then M.2.1 (t + 11 - t - 1) j else _) = _
  rw [if_pos (by omega), show t + 11 - t - 1 = 10 by omega]
  rfl
theorem ij_stA10 (σ : St) (t : Nat) (M : MS) (j : Nat) (v : Int32) : stA (ij σ t M) (t + 11) j v = ij σ t (eA M 10 j v) := ij_stA σ t M 10 j v (by omega)
theorem ij_A11 (σ : St) (t : Nat) (M : MS) (j : Nat) : hpA (ij σ t M) (t + 12) j = mA M 11 j := by
  show (if t < t + 12 ∧ t + 12 ≤ t + 16 then M.2.1 (t + 12 - t - 1) j else _) = _
  rw [if_pos (by omega), show t + 12 - t - 1 = 11 by omega]
  rfl
theorem ij_stA11 (σ : St) (t : Nat) (M : MS) (j : Nat) (v : Int32) : stA (ij σ t M) (t + 12) j v = ij σ t (eA M 11 j v) := ij_stA σ t M 11 j v (by omega)
theorem ij_A12 (σ : St) (t : Nat) (M : MS) (j : Nat) : hpA (ij σ t M) (t + 13) j = mA M 12 j := by
  show (if t < t + 13 ∧ t + 13 ≤ t + 16 then M.2.1 (t + 13 - t - 1) j else _) = _
  rw [if_pos (by omega), show t + 13 - t - 1 = 12 by omega]
  rfl
theorem ij_stA12 (σ : St) (t : Nat) (M : MS) (j : Nat) (v : Int32) : stA (ij σ t M) (t + 13) j v = ij σ t (eA M 12 j v) := ij_stA σ t M 12 j v (by omega)
theorem ij_A13 (σ : St) (t : Nat) (M : MS) (j : Nat) : hpA (ij σ t M) (t + 14) j = mA M 13 j := by
  show (if t < t + 14 ∧ t + 14 ≤ t + 16 then M.2.1 (t + 14 - t - 1) j else _) = _
  rw [if_pos (by omega), show t + 14 - t - 1 = 13 by omega]
  rfl
theorem ij_stA13 (σ : St) (t : Nat) (M : MS) (j : Nat) (v : Int32) : stA (ij σ t M) (t + 14) j v = ij σ t (eA M 13 j v) := ij_stA σ t M 13 j v (by omega)
theorem ij_A14 (σ : St) (t : Nat) (M : MS) (j : Nat) : hpA (ij σ t M) (t + 15) j = mA M 14 j := by
  show (if t < t + 15 ∧ t + 15 ≤ t + 16 then M.2.1 (t + 15 - t - 1) j else _) = _
  rw [if_pos (by omega), show t + 15 - t - 1 = 14 by omega]
  rfl
theorem ij_stA14 (σ : St) (t : Nat) (M : MS) (j : Nat) (v : Int32) : stA (ij σ t M) (t + 15) j v = ij σ t (eA M 14 j v) := ij_stA σ t M 14 j v (by omega)
theorem ij_A15 (σ : St) (t : Nat) (M : MS) (j : Nat) : hpA (ij σ t M) (t + 16) j = mA M 15 j := by
  show (if t < t + 16 ∧ t + 16 ≤ t + 16 then M.2.1 (t + 16 - t - 1) j else _) = _
  rw [if_pos (by omega), show t + 16 - t - 1 = 15 by omega]
  rfl
theorem ij_stA15 (σ : St) (t : Nat) (M : MS) (j : Nat) (v : Int32) : stA (ij σ t M) (t + 16) j v = ij σ t (eA M 15 j v) := ij_stA σ t M 15 j v (by omega)
theorem ij_I2 (σ : St) (t : Nat) (M : MS) : hpI (ij σ t M) 354 t = mF M 2 := by
  show (if t = t ∧ 352 ≤ 354 then _ else _) = _
  rw [if_pos ⟨rfl, by omega⟩]
  rfl
theorem ij_stI2 (σ : St) (t : Nat) (M : MS) (v : Int32) : stI (ij σ t M) 354 t v = ij σ t (eF M 2 v) := ij_stI σ t M 2 v
theorem ij_I4 (σ : St) (t : Nat) (M : MS) : hpI (ij σ t M) 356 t = mF M 4 := by
  show (if t = t ∧ 352 ≤ 356 then _ else _) = _
  rw [if_pos ⟨rfl, by omega⟩]
  rfl
theorem ij_stI4 (σ : St) (t : Nat) (M : MS) (v : Int32) : stI (ij σ t M) 356 t v = ij σ t (eF M 4 v) := ij_stI σ t M 4 v
theorem ij_I5 (σ : St) (t : Nat) (M : MS) : hpI (ij σ t M) 357 t = mF M 5 := by
  show (if t = t ∧ 352 ≤ 357 then _ else _) = _
  rw [if_pos ⟨rfl, by omega⟩]
  rfl
theorem ij_stI5 (σ : St) (t : Nat) (M : MS) (v : Int32) : stI (ij σ t M) 357 t v = ij σ t (eF M 5 v) := ij_stI σ t M 5 v
theorem ij_I6 (σ : St) (t : Nat) (M : MS) : hpI (ij σ t M) 358 t = mF M 6 := by
  show (if t = t ∧ 352 ≤ 358 then _ else _) = _
  rw [if_pos ⟨rfl, by omega⟩]
  rfl
theorem ij_stI6 (σ : St) (t : Nat) (M : MS) (v : Int32) : stI (ij σ t M) 358 t v = ij σ t (eF M 6 v) := ij_stI σ t M 6 v
theorem ij_I8 (σ : St) (t : Nat) (M : MS) : hpI (ij σ t M) 360 t = mF M 8 := by
  show (if t = t ∧ 352 ≤ 360 then _ else _) = _
  rw [if_pos ⟨rfl, by omega⟩]
  rfl
theorem ij_stI8 (σ : St) (t : Nat) (M : MS) (v : Int32) : stI (ij σ t M) 360 t v = ij σ t (eF M 8 v) := ij_stI σ t M 8 v
theorem ij_I17 (σ : St) (t : Nat) (M : MS) : hpI (ij σ t M) 369 t = mF M 17 := by
  show (if t = t ∧ 352 ≤ 369 then _ else _) = _
  rw [if_pos ⟨rfl, by omega⟩]
  rfl
theorem ij_stI17 (σ : St) (t : Nat) (M : MS) (v : Int32) : stI (ij σ t M) 369 t v = ij σ t (eF M 17 v) := ij_stI σ t M 17 v
theorem ij_I22 (σ : St) (t : Nat) (M : MS) : hpI (ij σ t M) 374 t = mF M 22 := by
  show (if t = t ∧ 352 ≤ 374 then _ else _) = _
  rw [if_pos ⟨rfl, by omega⟩]
  rfl
theorem ij_stI22 (σ : St) (t : Nat) (M : MS) (v : Int32) : stI (ij σ t M) 374 t v = ij σ t (eF M 22 v) := ij_stI σ t M 22 v
theorem ij_I23 (σ : St) (t : Nat) (M : MS) : hpI (ij σ t M) 375 t = mF M 23 := by
  show (if t = t ∧ 352 ≤ 375 then _ else _) = _
  rw [if_pos ⟨rfl, by omega⟩]
  rfl
theorem ij_stI23 (σ : St) (t : Nat) (M : MS) (v : Int32) : stI (ij σ t M) 375 t v = ij σ t (eF M 23 v) := ij_stI σ t M 23 v
theorem ij_I24 (σ : St) (t : Nat) (M : MS) : hpI (ij σ t M) 376 t = mF M 24 := by
  show (if t = t ∧ 352 ≤ 376 then _ else _) = _
  rw [if_pos ⟨rfl, by omega⟩]
  rfl
theorem ij_stI24 (σ : St) (t : Nat) (M : MS) (v : Int32) : stI (ij σ t M) 376 t v = ij σ t (eF M 24 v) := ij_stI σ t M 24 v
theorem ij_J (σ : St) (t : Nat) (M : MS) : hpJ (ij σ t M) 377 t = mJ M := by
  show (if t = t ∧ 377 = 377 then _ else _) = _
  rw [if_pos ⟨rfl, rfl⟩]
  rfl
theorem ij_stJ (σ : St) (t : Nat) (M : MS) (v : Int64) : stJ (ij σ t M) 377 t v = ij σ t (eJ M v) := by
  simp only [stJ, ij, eJ, Prod.mk.injEq, true_and, and_true]
  funext f a
  simp only [up2]
  by_cases h : f = 377 ∧ a = t
  · rw [if_pos h, if_pos ⟨h.2, h.1⟩]
  · rw [if_neg h, if_neg (fun q => h ⟨q.2, q.1⟩), if_neg (fun q => h ⟨q.2, q.1⟩)]
def g_X11_in (M : MS) (p1 : Int32) (p2 : Int32) (p3 : Int32) : Option (Int32) :=
  if p1 < p2 then
    some 0
  else
    if p3 < p1 then
      some 0
    else
      some 1
def g_X11_lesser (M : MS) (p1 : Int32) (p2 : Int32) : Option (Int32) :=
  if p2 ≤ p1 then
    some p2
  else
    some p1
def LGX11_keeps_11 : Nat → (Int32) → (MS) → Option (MS)
  | 0, _, _ => none
  | n + 1, v1, μ =>
    if 14322 ≤ v1 then
      some μ
    else
      (ix (v1 + 2046) 16368).bind fun j5 =>
      (ix v1 16368).bind fun j7 =>
      LGX11_keeps_11 n (v1 + 1) (eA μ 1 j7 (mA μ 1 j5))
def LGX11_keeps_52 : Nat → (Int32) → (MS) → Option (MS)
  | 0, _, _ => none
  | n + 1, v1, μ =>
    if 2046 ≤ v1 then
      some μ
    else
      (ix v1 2046).bind fun j11 =>
      (ix ((2046 * (mF μ 2)) + v1) 16368).bind fun j13 =>
      LGX11_keeps_52 n (v1 + 1) (eA μ 1 j13 (mA μ 0 j11))
def g_X11_keeps (M : MS) : Option (MS) :=
  (if ¬ (mF M 2) = 8 then
    some M
  else
    (LGX11_keeps_11 FU 0 M).bind fun x3 =>
    some (eF x3 2 ((mF x3 2) - 1))).bind fun (x1 : MS) =>
  (LGX11_keeps_52 FU 0 x1).bind fun x9 =>
  some (eF x9 2 ((mF x9 2) + 1))
def LGX11_undo_22 : Nat → (Int32) → (MS) → Option (MS)
  | 0, _, _ => none
  | n + 1, v1, μ =>
    if 2046 ≤ v1 then
      some μ
    else
      (ix ((2046 * (mF μ 2)) + v1) 16368).bind fun j4 =>
      (ix v1 2046).bind fun j6 =>
      LGX11_undo_22 n (v1 + 1) (eA μ 0 j6 (mA μ 1 j4))
def g_X11_undo (M : MS) : Option (Int32 × MS) :=
  if ¬ (mF M 2) = 0 then
    (LGX11_undo_22 FU 0 (eF M 2 ((mF M 2) - 1))).bind fun x2 =>
    some ((mF x2 2), x2)
  else
    some ((-3), M)
def g_X11_type (M : MS) (p1 : Int32) : Option (Int32 × MS) :=
  (g_X11_in M p1 0 127).bind fun q1 =>
  if ¬ q1 = 0 then
    if ¬ (mF M 4) = 80 then
      (ix (mF M 4) 80).bind fun j5 =>
      some ((mF (eF (eA M 2 j5 p1) 4 ((mF (eA M 2 j5 p1) 4) + 1)) 4), (eF (eA M 2 j5 p1) 4 ((mF (eA M 2 j5 p1) 4) + 1)))
    else
      some ((-4), M)
  else
    some ((-2), M)
def g_X11_clear (M : MS) : Option (Int32 × MS) :=
  some ((mF M 4), (eF M 4 0))
def g_X11_next (M : MS) : Option (Int32) :=
  if (mF M 4) ≤ (mF M 5) then
    some (-1)
  else
    (ix (mF M 5) 80).bind fun j2 =>
    some (mA M 2 j2)
def g_X11_isLetter (M : MS) : Option (Int32) :=
  (g_X11_next M).bind fun q1 =>
  (g_X11_in M q1 97 122).bind fun q3 =>
  (gz q3).bind fun z5 =>
  some q3
def LGX11_skips_0 : Nat → (MS) → Option (MS)
  | 0, _ => none
  | n + 1, μ =>
    (g_X11_next μ).bind fun q2 =>
    if ¬ q2 = 32 then
      some μ
    else
      LGX11_skips_0 n (eF μ 5 ((mF μ 5) + 1))
def g_X11_skips (M : MS) : Option (MS) :=
  (LGX11_skips_0 FU M).bind fun x1 =>
  some x1
def g_X11_takes (M : MS) (p1 : Int32) : Option (Int32 × MS) :=
  (g_X11_next M).bind fun q1 =>
  (if ¬ q1 = p1 then
    some 0
  else
    some 1).bind fun (x3 : Int32) =>
  if x3 = 0 then
    (gz x3).bind fun z6 =>
    some (x3, M)
  else
    (g_X11_skips (eF M 5 ((mF M 5) + 1))).bind fun q8 =>
    (gz x3).bind fun z10 =>
    some (x3, q8)
def LGX11_readsWord_36 : Nat → (Int32) → (MS) → Option (MS)
  | 0, _, _ => none
  | n + 1, v1, μ =>
    (g_X11_isLetter μ).bind fun q14 =>
    if q14 = 0 then
      some μ
    else
      if 16 ≤ v1 then
        some μ
      else
        (ix 0 85).bind fun j18 =>
        (g_X11_next μ).bind fun q20 =>
        (ix (5 + (mA μ 3 j18)) 85).bind fun j22 =>
        (ix 0 85).bind fun j24 =>
        (ix 0 85).bind fun j26 =>
        LGX11_readsWord_36 n (v1 + 1) (eF (eA (eA μ 3 j22 q20) 3 j26 ((mA (eA μ 3 j22 q20) 3 j24) + 1)) 5 ((mF (eA (eA μ 3 j22 q20) 3 j26 ((mA (eA μ 3 j22 q20) 3 j24) + 1)) 5) + 1))
def g_X11_readsWord (M : MS) : Option (MS) :=
  (ix 1 85).bind fun j1 =>
  (if (mA M 3 j1) ≤ 0 then
    some M
  else
    (ix 0 85).bind fun j5 =>
    (ix (5 + (mA M 3 j5)) 85).bind fun j7 =>
    (ix 0 85).bind fun j9 =>
    (ix 0 85).bind fun j11 =>
    some (eA (eA M 3 j7 32) 3 j11 ((mA (eA M 3 j7 32) 3 j9) + 1))).bind fun (x3 : MS) =>
  (LGX11_readsWord_36 FU 0 x3).bind fun x13 =>
  (ix 1 85).bind fun j28 =>
  (ix 1 85).bind fun j30 =>
  (g_X11_isLetter (eA x13 3 j30 ((mA x13 3 j28) + 1))).bind fun q32 =>
  (if q32 = 0 then
    some (mF (eA x13 3 j30 ((mA x13 3 j28) + 1)) 6)
  else
    some (mF (eA x13 3 j30 ((mA x13 3 j28) + 1)) 5)).bind fun (x34 : Int32) =>
  (g_X11_skips (eF (eA x13 3 j30 ((mA x13 3 j28) + 1)) 6 x34)).bind fun q36 =>
  some q36
def LGX11_readsLine_16 : Nat → (Int32) → (MS) → Option (MS)
  | 0, _, _ => none
  | n + 1, v1, μ =>
    if 85 ≤ v1 then
      some μ
    else
      (ix v1 85).bind fun j5 =>
      LGX11_readsLine_16 n (v1 + 1) (eA μ 3 j5 0)
def LGX11_readsLine_55 : Nat → (MS) → Option (MS)
  | 0, _ => none
  | n + 1, μ =>
    (ix 2 85).bind fun j14 =>
    if 5 ≤ (mA μ 3 j14) then
      some μ
    else
      (g_X11_takes μ 62).bind fun q17 =>
      if q17.1 = 0 then
        some q17.2
      else
        (ix 2 85).bind fun j20 =>
        (ix 2 85).bind fun j22 =>
        LGX11_readsLine_55 n (eA q17.2 3 j22 ((mA q17.2 3 j20) + 1))
def LGX11_readsLine_87 : Nat → (MS) → Option (MS)
  | 0, _ => none
  | n + 1, μ =>
    (g_X11_isLetter μ).bind fun q25 =>
    if q25 = 0 then
      some μ
    else
      if ¬ (mF μ 6) = (-1) then
        some μ
      else
        (g_X11_readsWord μ).bind fun q29 =>
        LGX11_readsLine_87 n q29
def g_X11_readsLine (M : MS) : Option (MS) :=
  (g_X11_skips (eF (eF M 5 0) 6 (-1))).bind fun q1 =>
  (LGX11_readsLine_16 FU 0 q1).bind fun x3 =>
  (g_X11_takes x3 126).bind fun q7 =>
  (if q7.1 = 0 then
    some 0
  else
    some 1).bind fun (x9 : Int32) =>
  (ix 3 85).bind fun j11 =>
  (LGX11_readsLine_55 FU (eA q7.2 3 j11 x9)).bind fun x13 =>
  (LGX11_readsLine_87 FU x13).bind fun x24 =>
  (if ¬ (mF x24 6) = (-1) then
    some x24
  else
    (ix 1 85).bind fun j33 =>
    if (mA x24 3 j33) ≤ 0 then
      some x24
    else
      (g_X11_takes x24 47).bind fun q36 =>
      (if q36.1 = 0 then
        some 0
      else
        some 1).bind fun (x38 : Int32) =>
      (ix 4 85).bind fun j40 =>
      some (eA q36.2 3 j40 x38)).bind fun (x31 : MS) =>
  if ¬ (mF x31 6) = (-1) then
    some x31
  else
    (ix 1 85).bind fun j43 =>
    sb (if (mA x31 3 j43) = 0 then
      some (.inr ())
    else
      if (mF x31 4) ≤ (mF x31 5) then
        some (.inl x31)
      else
        some (.inr ())) fun (wx45 : Unit) =>
    some (eF x31 6 (mF x31 5))
def LGX11_isName_21 : Nat → (MS) → (Int32) → (Int64) → (Int32) → (Int32) → (Int32) → Option (Int32)
  | 0, _, _, _, _, _, _ => none
  | n + 1, μ, l1, l2, l4, v5, v6 =>
    if l4 ≤ v6 then
      some v5
    else
      if v5 = 0 then
        some v5
      else
        (ix (l1 + v6) 80).bind fun j6 =>
        (if ¬ (mA μ 2 j6) = ((((l2 >>> (((8 * ((l4 - 1) - v6))).toInt64 &&& 63)) &&& 127)).toInt32) then
          some 0
        else
          some 1).bind fun (x8 : Int32) =>
        LGX11_isName_21 n μ l1 l2 l4 x8 (v6 + 1)
def g_X11_isName (M : MS) (p1 : Int32) (p2 : Int64) (p3 : Int32) : Option (Int32) :=
  (if ¬ ((mF M 5) - p1) = p3 then
    some 0
  else
    some 1).bind fun (x1 : Int32) =>
  (LGX11_isName_21 FU M p1 p2 p3 x1 0).bind fun x3 =>
  (gz x3).bind fun z10 =>
  some x3
def LGX11_readsShape_19 : Nat → (Int32) → (MS) → Option (MS)
  | 0, _, _ => none
  | n + 1, l1, μ =>
    (g_X11_isLetter μ).bind fun q4 =>
    if q4 = 0 then
      some μ
    else
      LGX11_readsShape_19 n l1 (eF μ 5 ((mF μ 5) + 1))
def g_X11_readsShape (M : MS) : Option (MS) :=
  (g_X11_skips (eF (eF M 5 0) 6 (-1))).bind fun q1 =>
  (LGX11_readsShape_19 FU (mF q1 5) q1).bind fun x3 =>
  (g_X11_isName x3 (mF q1 5) 126931137819237 6).bind fun q7 =>
  (if q7 = 0 then
    (g_X11_isName x3 (mF q1 5) 512802187109 5).bind fun q11 =>
    if q11 = 0 then
      (g_X11_isName x3 (mF q1 5) 28263364839829092 7).bind fun q14 =>
      if q14 = 0 then
        (g_X11_isName x3 (mF q1 5) 444199957363 5).bind fun q17 =>
        if q17 = 0 then
          some (-1)
        else
          some 3
      else
        some 2
    else
      some 1
  else
    some 0).bind fun (x9 : Int32) =>
  if ¬ (mF (eF x3 8 x9) 8) = (-1) then
    (g_X11_skips (eF x3 8 x9)).bind fun q21 =>
    (if (mF q21 4) ≤ (mF q21 5) then
      some (-1)
    else
      some (mF q21 5)).bind fun (x23 : Int32) =>
    some (eF q21 6 x23)
  else
    some (eF (eF x3 8 x9) 6 (mF q1 5))
def g_X11_fault (M : MS) (p1 : Int32) : Option (Int32 × MS) :=
  (if p1 = 0 then
    (g_X11_readsLine M).bind fun q3 =>
    some q3
  else
    (g_X11_readsShape M).bind fun q5 =>
    some q5).bind fun (x1 : MS) =>
  some ((mF x1 6), x1)
def g_X11_isLine (M : MS) (p1 : Int32) : Option (Int32) :=
  (ix 2040 2046).bind fun j1 =>
  (g_X11_in M p1 0 ((mA M 0 j1) - 1)).bind fun q3 =>
  (gz q3).bind fun z5 =>
  some q3
def g_X11_of (M : MS) (p1 : Int32) (p2 : Int32) : Option (Int32) :=
  (ix ((85 * p1) + p2) 2046).bind fun j1 =>
  some (mA M 0 j1)
def LGX11_copies_2 : Nat → (Int32) → (Int32) → (Int32) → (MS) → Option (MS)
  | 0, _, _, _, _ => none
  | n + 1, l1, l2, v3, μ =>
    if 85 ≤ v3 then
      some μ
    else
      (ix ((85 * l1) + v3) 2046).bind fun j3 =>
      (ix ((85 * l2) + v3) 2046).bind fun j5 =>
      LGX11_copies_2 n l1 l2 (v3 + 1) (eA μ 0 j5 (mA μ 0 j3))
def g_X11_copies (M : MS) (p1 : Int32) (p2 : Int32) : Option (MS) :=
  (LGX11_copies_2 FU p1 p2 0 M).bind fun x1 =>
  some x1
def LGX11_lays_2 : Nat → (Int32) → (Int32) → (MS) → Option (MS)
  | 0, _, _, _ => none
  | n + 1, l1, v2, μ =>
    if 85 ≤ v2 then
      some μ
    else
      (ix v2 85).bind fun j3 =>
      (ix ((85 * l1) + v2) 2046).bind fun j5 =>
      LGX11_lays_2 n l1 (v2 + 1) (eA μ 0 j5 (mA μ 3 j3))
def g_X11_lays (M : MS) (p1 : Int32) : Option (MS) :=
  (LGX11_lays_2 FU p1 0 M).bind fun x1 =>
  some x1
def LGX11_insert_69 : Nat → (Int32) → (Int32) → (MS) → Option (MS)
  | 0, _, _, _ => none
  | n + 1, l1, v2, μ =>
    if v2 ≤ l1 then
      some μ
    else
      (g_X11_copies μ (v2 - 1) v2).bind fun q18 =>
      LGX11_insert_69 n l1 (v2 + (-1)) q18
def g_X11_insert (M : MS) (p1 : Int32) : Option (Int32 × MS) :=
  (ix 2040 2046).bind fun j1 =>
  (g_X11_in M p1 0 (mA M 0 j1)).bind fun q3 =>
  if ¬ q3 = 0 then
    (g_X11_readsLine M).bind fun q6 =>
    if (mF q6 6) = (-1) then
      (ix 2040 2046).bind fun j9 =>
      if ¬ (mA q6 0 j9) = 24 then
        (g_X11_keeps q6).bind fun q12 =>
        (ix 2040 2046).bind fun j14 =>
        (LGX11_insert_69 FU p1 (mA q12 0 j14) q12).bind fun x16 =>
        (g_X11_lays x16 p1).bind fun q20 =>
        (ix 2040 2046).bind fun j22 =>
        (ix 2040 2046).bind fun j24 =>
        (ix 2040 2046).bind fun j26 =>
        some ((mA (eA q20 0 j24 ((mA q20 0 j22) + 1)) 0 j26), (eA q20 0 j24 ((mA q20 0 j22) + 1)))
      else
        some ((-4), q6)
    else
      some (((-2000) - (mF q6 6)), q6)
  else
    some ((-2), M)
def g_X11_replace (M : MS) (p1 : Int32) : Option (Int32 × MS) :=
  (g_X11_isLine M p1).bind fun q1 =>
  if ¬ q1 = 0 then
    (g_X11_readsLine M).bind fun q4 =>
    if (mF q4 6) = (-1) then
      (g_X11_keeps q4).bind fun q7 =>
      (g_X11_of q7 p1 1).bind fun q9 =>
      (g_X11_lays q7 p1).bind fun q11 =>
      some (q9, q11)
    else
      some (((-2000) - (mF q4 6)), q4)
  else
    some ((-2), M)
def LGX11_drops_14 : Nat → (Int32) → (MS) → Option (MS)
  | 0, _, _ => none
  | n + 1, v2, μ =>
    (ix 2040 2046).bind fun j6 =>
    if (mA μ 0 j6) ≤ v2 then
      some μ
    else
      (g_X11_copies μ (v2 + 1) v2).bind fun q9 =>
      LGX11_drops_14 n (v2 + 1) q9
def g_X11_drops (M : MS) (p1 : Int32) : Option (MS) :=
  (ix 2040 2046).bind fun j1 =>
  (ix 2040 2046).bind fun j3 =>
  (LGX11_drops_14 FU p1 (eA M 0 j3 ((mA M 0 j1) - 1))).bind fun x5 =>
  some x5
def g_X11_remove (M : MS) (p1 : Int32) : Option (Int32 × MS) :=
  (g_X11_isLine M p1).bind fun q1 =>
  if ¬ q1 = 0 then
    (g_X11_keeps M).bind fun q4 =>
    (g_X11_drops q4 p1).bind fun q6 =>
    (ix 2040 2046).bind fun j8 =>
    some ((mA q6 0 j8), q6)
  else
    some ((-2), M)
def g_X11_beginsStanza (M : MS) (p1 : Int32) : Option (Int32) :=
  if p1 = 0 then
    some 1
  else
    (g_X11_of M (p1 - 1) 4).bind fun q2 =>
    if ¬ q2 = 1 then
      some 0
    else
      some 1
def LGX11_stanzaOf_4 : Nat → (MS) → (Int32) → (Int32) → (Int32) → Option (Int32)
  | 0, _, _, _, _ => none
  | n + 1, μ, l1, v2, v3 =>
    if l1 < v3 then
      some v2
    else
      (g_X11_beginsStanza μ v3).bind fun q3 =>
      (if q3 = 0 then
        some 0
      else
        some 1).bind fun (x5 : Int32) =>
      LGX11_stanzaOf_4 n μ l1 (v2 + x5) (v3 + 1)
def g_X11_stanzaOf (M : MS) (p1 : Int32) : Option (Int32) :=
  (LGX11_stanzaOf_4 FU M p1 (-1) 0).bind fun x1 =>
  some x1
def g_X11_stanzas (M : MS) : Option (Int32) :=
  (ix 2040 2046).bind fun j1 =>
  if ¬ (mA M 0 j1) = 0 then
    (ix 2040 2046).bind fun j4 =>
    (g_X11_stanzaOf M ((mA M 0 j4) - 1)).bind fun q6 =>
    some (q6 + 1)
  else
    some 0
def LGX11_move_97 : Nat → (Int32) → (Int32) → (Int32) → (Int32) → (Int32) → (Int32) → (Int32) → (MS) → Option (MS)
  | 0, _, _, _, _, _, _, _, _ => none
  | n + 1, l1, l2, l3, l4, l5, l6, v7, μ =>
    if 85 ≤ v7 then
      some μ
    else
      (g_X11_of μ l5 v7).bind fun q24 =>
      (ix v7 85).bind fun j26 =>
      LGX11_move_97 n l1 l2 l3 l4 l5 l6 (v7 + 1) (eA μ 3 j26 q24)
def LGX11_move_129 : Nat → (Int32) → (Int32) → (Int32) → (Int32) → (Int32) → (Int32) → (Int32) → (MS) → Option (MS)
  | 0, _, _, _, _, _, _, _, _ => none
  | n + 1, l1, l2, l3, l4, l5, l6, v7, μ =>
    if v7 ≤ l6 then
      some μ
    else
      (g_X11_copies μ (v7 - 1) v7).bind fun q30 =>
      LGX11_move_129 n l1 l2 l3 l4 l5 l6 (v7 + (-1)) q30
def LGX11_move_156 : Nat → (Int32) → (Int32) → (Int32) → (Int32) → (Int32) → (Int32) → (MS) → Option (MS)
  | 0, _, _, _, _, _, _, _ => none
  | n + 1, l1, l2, l3, l4, l6, v7, μ =>
    if l6 ≤ v7 then
      some μ
    else
      (g_X11_copies μ (v7 + 1) v7).bind fun q34 =>
      LGX11_move_156 n l1 l2 l3 l4 l6 (v7 + 1) q34
def LGX11_move_54 : Nat → (Int32) → (Int32) → (Int32) → (Int32) → (MS) → Option (MS)
  | 0, _, _, _, _, _ => none
  | n + 1, l1, l2, l3, v4, μ =>
    if l2 ≤ v4 then
      some μ
    else
      (if l1 ≤ l3 then
        some l1
      else
        some (l1 + v4)).bind fun (x18 : Int32) =>
      (if l1 ≤ l3 then
        some ((l3 + l2) - 1)
      else
        some (l3 + v4)).bind fun (x20 : Int32) =>
      (LGX11_move_97 FU l1 l2 l3 v4 x18 x20 0 μ).bind fun x22 =>
      (LGX11_move_129 FU l1 l2 l3 v4 x18 x20 x18 x22).bind fun x28 =>
      (LGX11_move_156 FU l1 l2 l3 v4 x20 x18 x28).bind fun x32 =>
      (g_X11_lays x32 x20).bind fun q36 =>
      LGX11_move_54 n l1 l2 l3 (v4 + 1) q36
def g_X11_move (M : MS) (p1 : Int32) (p2 : Int32) (p3 : Int32) : Option (Int32 × MS) :=
  (g_X11_isLine M p1).bind fun q1 =>
  if q1 = 0 then
    some ((-2), M)
  else
    (ix 2040 2046).bind fun j4 =>
    (g_X11_in M p2 1 ((mA M 0 j4) - p1)).bind fun q6 =>
    if q6 = 0 then
      some ((-2), M)
    else
      (ix 2040 2046).bind fun j9 =>
      (g_X11_in M p3 0 ((mA M 0 j9) - p2)).bind fun q11 =>
      if ¬ q11 = 0 then
        (g_X11_keeps M).bind fun q14 =>
        (LGX11_move_54 FU p1 p2 p3 0 q14).bind fun x16 =>
        (g_X11_stanzas x16).bind fun q38 =>
        some (q38, x16)
      else
        some ((-2), M)
def g_X11_toggle (M : MS) (p1 : Int32) (p2 : Int32) : Option (Int32 × MS) :=
  (g_X11_isLine M p1).bind fun q1 =>
  if ¬ q1 = 0 then
    (g_X11_keeps M).bind fun q4 =>
    (if p2 = 0 then
      some 4
    else
      some 3).bind fun (x6 : Int32) =>
    (ix ((85 * p1) + x6) 2046).bind fun j8 =>
    (ix ((85 * p1) + x6) 2046).bind fun j10 =>
    (ix ((85 * p1) + x6) 2046).bind fun j12 =>
    some ((mA (eA q4 0 j10 (1 - (mA q4 0 j8))) 0 j12), (eA q4 0 j10 (1 - (mA q4 0 j8))))
  else
    some ((-2), M)
def g_X11_leans (M : MS) (p1 : Int32) : Option (Int32) :=
  (g_X11_of M p1 3).bind fun q1 =>
  if ¬ q1 = 1 then
    some 0
  else
    (g_X11_beginsStanza M p1).bind fun q4 =>
    if ¬ q4 = 0 then
      some 0
    else
      some 1
def LGX11_numberOf_4 : Nat → (MS) → (Int32) → (Int32) → (Int32) → Option (Int32)
  | 0, _, _, _, _ => none
  | n + 1, μ, l1, v2, v3 =>
    if l1 < v3 then
      some v2
    else
      (g_X11_leans μ v3).bind fun q3 =>
      (if q3 = 0 then
        some 1
      else
        some 0).bind fun (x5 : Int32) =>
      LGX11_numberOf_4 n μ l1 (v2 + x5) (v3 + 1)
def g_X11_numberOf (M : MS) (p1 : Int32) : Option (Int32) :=
  (LGX11_numberOf_4 FU M p1 0 0).bind fun x1 =>
  some x1
def g_X11_begins (M : MS) (p1 : Int32) (p2 : Int32) (p3 : Int32) (p4 : Int32) (p5 : Int32) : Option (MS) :=
  (ix (mF M 17) 960).bind fun j1 =>
  (ix (mF (eA M 4 j1 p1) 17) 960).bind fun j3 =>
  (ix 2041 2046).bind fun j5 =>
  (g_X11_lesser (eA (eA M 4 j1 p1) 5 j3 p2) p3 ((mA (eA (eA M 4 j1 p1) 5 j3 p2) 0 j5) - 6)).bind fun q7 =>
  (ix (mF (eA (eA M 4 j1 p1) 5 j3 p2) 17) 960).bind fun j9 =>
  (ix (mF (eA (eA (eA M 4 j1 p1) 5 j3 p2) 6 j9 q7) 17) 960).bind fun j11 =>
  (ix (mF (eA (eA (eA (eA M 4 j1 p1) 5 j3 p2) 6 j9 q7) 7 j11 0) 17) 960).bind fun j13 =>
  (ix (mF (eA (eA (eA (eA (eA M 4 j1 p1) 5 j3 p2) 6 j9 q7) 7 j11 0) 9 j13 p4) 17) 960).bind fun j15 =>
  some (eF (eA (eA (eA (eA (eA (eA M 4 j1 p1) 5 j3 p2) 6 j9 q7) 7 j11 0) 9 j13 p4) 8 j15 p5) 17 ((mF (eA (eA (eA (eA (eA (eA M 4 j1 p1) 5 j3 p2) 6 j9 q7) 7 j11 0) 9 j13 p4) 8 j15 p5) 17) + 1))
def LGX11_wordFrom_2 : Nat → (MS) → (Int32) → (Int32) → (Int32) → Option (Int32)
  | 0, _, _, _, _ => none
  | n + 1, μ, l1, l2, v3 =>
    (g_X11_of μ l1 0).bind fun q2 =>
    if q2 ≤ (l2 + v3) then
      some v3
    else
      (g_X11_of μ l1 ((5 + l2) + v3)).bind fun q5 =>
      if q5 = 32 then
        some v3
      else
        LGX11_wordFrom_2 n μ l1 l2 (v3 + 1)
def g_X11_wordFrom (M : MS) (p1 : Int32) (p2 : Int32) : Option (Int32) :=
  (LGX11_wordFrom_2 FU M p1 p2 0).bind fun x1 =>
  some x1
def LGX11_laysRows_69 : Nat → (Int32) → (Int32) → (Int32) → (Int32) → (MS) → Option (MS)
  | 0, _, _, _, _, _ => none
  | n + 1, l1, l2, l3, v4, μ =>
    (g_X11_of μ l1 0).bind fun q16 =>
    if q16 ≤ v4 then
      some μ
    else
      (g_X11_wordFrom μ l1 v4).bind fun q19 =>
      (ix ((mF μ 17) - 1) 960).bind fun j21 =>
      (if (mA μ 7 j21) ≤ 0 then
        some 0
      else
        some 1).bind fun (x23 : Int32) =>
      (ix 2041 2046).bind fun j25 =>
      (ix ((mF μ 17) - 1) 960).bind fun j27 =>
      (ix ((mF μ 17) - 1) 960).bind fun j29 =>
      (if ((((mA μ 0 j25) - (mA μ 6 j27)) - (mA μ 7 j29)) - x23) < q19 then
        if ¬ x23 = 1 then
          (ix ((mF μ 17) - 1) 960).bind fun j34 =>
          (ix 2044 2046).bind fun j36 =>
          (g_X11_begins (eA μ 7 j34 ((((mA μ 0 j25) - (mA μ 6 j27)) - (mA μ 7 j29)) - x23)) l1 ((mF (eA μ 7 j34 ((((mA μ 0 j25) - (mA μ 6 j27)) - (mA μ 7 j29)) - x23)) 17) - l3) (l2 + (mA (eA μ 7 j34 ((((mA μ 0 j25) - (mA μ 6 j27)) - (mA μ 7 j29)) - x23)) 0 j36)) (v4 + ((((mA μ 0 j25) - (mA μ 6 j27)) - (mA μ 7 j29)) - x23)) 1).bind fun q38 =>
          some ((v4 + ((((mA μ 0 j25) - (mA μ 6 j27)) - (mA μ 7 j29)) - x23)), q38)
        else
          (ix 2044 2046).bind fun j40 =>
          (g_X11_begins μ l1 ((mF μ 17) - l3) (l2 + (mA μ 0 j40)) v4 0).bind fun q42 =>
          some (v4, q42)
      else
        (ix ((mF μ 17) - 1) 960).bind fun j44 =>
        (ix ((mF μ 17) - 1) 960).bind fun j46 =>
        some ((v4 + (q19 + 1)), (eA μ 7 j46 ((mA μ 7 j44) + (x23 + q19))))).bind fun (x31 : Int32 × MS) =>
      LGX11_laysRows_69 n l1 l2 l3 x31.1 x31.2
def g_X11_laysRows (M : MS) (p1 : Int32) : Option (MS) :=
  (g_X11_of M p1 2).bind fun q1 =>
  (ix 2043 2046).bind fun j3 =>
  (g_X11_leans M p1).bind fun q5 =>
  (if q5 = 0 then
    some (q1 * (mA M 0 j3))
  else
    (ix ((mF M 17) - 1) 960).bind fun j9 =>
    (ix ((mF M 17) - 1) 960).bind fun j11 =>
    some (((mA M 6 j9) + (mA M 7 j11)) + 1)).bind fun (x7 : Int32) =>
  (g_X11_begins M p1 0 x7 0 0).bind fun q13 =>
  (LGX11_laysRows_69 FU p1 (q1 * (mA M 0 j3)) (mF M 17) 0 q13).bind fun x15 =>
  some x15
def g_X11_turns (M : MS) : Option (MS) :=
  some (eF (eF (eF M 22 ((mF M 22) + 1)) 23 0) 24 1)
def LGX11_paginates_154 : Nat → (Int32) → (Int32) → (Int32) → (Int32) → (MS) → Option (MS)
  | 0, _, _, _, _, _ => none
  | n + 1, l1, l2, l3, v4, μ =>
    (ix l1 24).bind fun j36 =>
    if ((mA μ 13 j36) + l2) ≤ v4 then
      some μ
    else
      (if ¬ (mF μ 23) = l3 then
        some μ
      else
        (g_X11_turns μ).bind fun q41 =>
        some q41).bind fun (x39 : MS) =>
      (ix v4 960).bind fun j43 =>
      (ix v4 960).bind fun j45 =>
      LGX11_paginates_154 n l1 l2 l3 (v4 + 1) (eF (eF (eA (eA x39 10 j43 (mF x39 22)) 11 j45 (mF (eA x39 10 j43 (mF x39 22)) 23)) 23 ((mF (eA (eA x39 10 j43 (mF x39 22)) 11 j45 (mF (eA x39 10 j43 (mF x39 22)) 23)) 23) + 1)) 24 0)
def g_X11_paginates (M : MS) (p1 : Int32) : Option (MS) :=
  (ix p1 24).bind fun j1 =>
  (ix 2042 2046).bind fun j3 =>
  (g_X11_beginsStanza M p1).bind fun q5 =>
  (if q5 = 0 then
    if ¬ (mF M 24) = 0 then
      some M
    else
      if (mA M 14 j1) ≤ ((mA M 0 j3) - (mF M 23)) then
        some M
      else
        (g_X11_turns M).bind fun q11 =>
        some q11
  else
    (ix p1 24).bind fun j13 =>
    (ix (mA M 12 j13) 24).bind fun j15 =>
    (ix 2045 2046).bind fun j17 =>
    (if (mA M 0 j17) < (mA M 15 j15) then
      some 0
    else
      if (mA M 0 j3) < (mA M 15 j15) then
        some 0
      else
        if (mA M 15 j15) ≤ (((mA M 0 j3) - (mF M 23)) - 1) then
          some 0
        else
          some 1).bind fun (x19 : Int32) =>
    (if ¬ (mF M 24) = 0 then
      if ¬ (mF M 24) = 0 then
        some M
      else
        some (eF M 23 ((mF M 23) + 1))
    else
      if (((mA M 0 j3) - (mF M 23)) - 1) < (mA M 14 j1) then
        (g_X11_turns M).bind fun q27 =>
        some q27
      else
        if x19 = 0 then
          if ¬ (mF M 24) = 0 then
            some M
          else
            some (eF M 23 ((mF M 23) + 1))
        else
          (g_X11_turns M).bind fun q31 =>
          some q31).bind fun (x23 : MS) =>
    some x23).bind fun (x7 : MS) =>
  (ix p1 24).bind fun j33 =>
  (LGX11_paginates_154 FU p1 (mA M 14 j1) (mA M 0 j3) (mA x7 13 j33) x7).bind fun x35 =>
  some x35
def LGX11_draws_9 : Nat → (Int32) → (Int32) → (MS) → Option (MS)
  | 0, _, _, _ => none
  | n + 1, v1, v2, μ =>
    (ix 2040 2046).bind fun j2 =>
    if (mA μ 0 j2) ≤ v2 then
      some μ
    else
      (g_X11_beginsStanza μ v2).bind fun q5 =>
      (if q5 = 0 then
        some (v1, μ)
      else
        (ix (v1 + 1) 24).bind fun j9 =>
        some ((v1 + 1), (eA μ 15 j9 0))).bind fun (x7 : Int32 × MS) =>
      (ix v2 24).bind fun j11 =>
      (ix v2 24).bind fun j13 =>
      (g_X11_laysRows (eA (eA x7.2 12 j11 x7.1) 13 j13 (mF (eA x7.2 12 j11 x7.1) 17)) v2).bind fun q15 =>
      (ix v2 24).bind fun j17 =>
      (ix v2 24).bind fun j19 =>
      (ix x7.1 24).bind fun j21 =>
      (ix v2 24).bind fun j23 =>
      (ix x7.1 24).bind fun j25 =>
      LGX11_draws_9 n x7.1 (v2 + 1) (eA (eA q15 14 j19 ((mF q15 17) - (mA q15 13 j17))) 15 j25 ((mA (eA q15 14 j19 ((mF q15 17) - (mA q15 13 j17))) 15 j21) + (mA (eA q15 14 j19 ((mF q15 17) - (mA q15 13 j17))) 14 j23)))
def LGX11_draws_116 : Nat → (Int32) → (MS) → Option (MS)
  | 0, _, _ => none
  | n + 1, v2, μ =>
    (ix 2040 2046).bind fun j28 =>
    if (mA μ 0 j28) ≤ v2 then
      some μ
    else
      (g_X11_paginates μ v2).bind fun q31 =>
      LGX11_draws_116 n (v2 + 1) q31
def g_X11_draws (M : MS) : Option (MS) :=
  (LGX11_draws_9 FU (-1) 0 (eF M 17 0)).bind fun x1 =>
  (LGX11_draws_116 FU 0 (eF (eF (eF x1 22 0) 23 0) 24 1)).bind fun x27 =>
  some x27
def g_X11_pages (M : MS) : Option (Int32) :=
  if ¬ (mF M 17) = 0 then
    (ix ((mF M 17) - 1) 960).bind fun j2 =>
    some ((mA M 10 j2) + 1)
  else
    some 0
def g_X11_letters (M : MS) (p1 : Int32) : Option (Int32) :=
  (g_X11_of M p1 0).bind fun q1 =>
  (g_X11_of M p1 1).bind fun q3 =>
  some ((q1 - q3) + 1)
def g_X11_linePart (M : MS) (p1 : Int32) (p2 : Int32) : Option (Int32) :=
  if p2 = 0 then
    (g_X11_letters M p1).bind fun q1 =>
    some q1
  else if p2 = 1 then
    (g_X11_of M p1 1).bind fun q3 =>
    some q3
  else if p2 = 2 then
    (g_X11_of M p1 2).bind fun q5 =>
    some q5
  else if p2 = 3 then
    (g_X11_of M p1 3).bind fun q7 =>
    some q7
  else if p2 = 4 then
    (g_X11_leans M p1).bind fun q9 =>
    if q9 = 0 then
      some 0
    else
      some 1
  else if p2 = 5 then
    (g_X11_of M p1 4).bind fun q12 =>
    some q12
  else if p2 = 6 then
    (g_X11_numberOf M p1).bind fun q14 =>
    some q14
  else if p2 = 7 then
    (ix p1 24).bind fun j16 =>
    some (mA M 13 j16)
  else if p2 = 8 then
    (ix p1 24).bind fun j18 =>
    some (mA M 14 j18)
  else 
    (ix p1 24).bind fun j20 =>
    some (mA M 12 j20)
def g_X11_line (M : MS) (p1 : Int32) (p2 : Int32) : Option (Int32 × MS) :=
  (g_X11_isLine M p1).bind fun q1 =>
  if q1 = 0 then
    some ((-2), M)
  else
    (g_X11_in M p2 0 9).bind fun q4 =>
    if ¬ q4 = 0 then
      (g_X11_draws M).bind fun q7 =>
      (g_X11_linePart q7 p1 p2).bind fun q9 =>
      some (q9, q7)
    else
      some ((-2), M)
def g_X11_letter (M : MS) (p1 : Int32) (p2 : Int32) : Option (Int32) :=
  (g_X11_isLine M p1).bind fun q1 =>
  if q1 = 0 then
    some (-2)
  else
    if 0 ≤ p2 then
      (g_X11_of M p1 0).bind fun q5 =>
      if q5 ≤ p2 then
        some (-1)
      else
        (g_X11_of M p1 (5 + p2)).bind fun q8 =>
        some q8
    else
      some (-2)
def g_X11_set (M : MS) (p1 : Int32) (p2 : Int32) : Option (Int32 × MS) :=
  (if ¬ p1 = 0 then
    if ¬ p1 = 2 then
      if ¬ p1 = 3 then
        some 30
      else
        some 8
    else
      some 6
  else
    some 60).bind fun (x1 : Int32) =>
  (g_X11_in M p1 0 4).bind fun q5 =>
  if q5 = 0 then
    some ((-2), M)
  else
    (if ¬ p1 = 0 then
      if ¬ p1 = 1 then
        some 0
      else
        some 4
    else
      some 12).bind fun (x8 : Int32) =>
    (g_X11_in M p2 x8 x1).bind fun q11 =>
    if ¬ q11 = 0 then
      (g_X11_keeps M).bind fun q14 =>
      (ix (2041 + p1) 2046).bind fun j16 =>
      (ix (2041 + p1) 2046).bind fun j18 =>
      some ((mA q14 0 j16), (eA q14 0 j18 p2))
    else
      some ((-2), M)
def g_X11_shown (M : MS) (p1 : Int32) : Option (Int32) :=
  (ix p1 960).bind fun j1 =>
  (g_X11_numberOf M (mA M 4 j1)).bind fun q3 =>
  (ix p1 960).bind fun j5 =>
  if ¬ (mA M 5 j5) = 0 then
    some 0
  else
    (ix p1 960).bind fun j8 =>
    (g_X11_leans M (mA M 4 j8)).bind fun q10 =>
    if ¬ q10 = 0 then
      some 0
    else
      (nz 5).bind fun w13 =>
      if ¬ (q3 - q3 / 5 * 5) = 0 then
        some 0
      else
        some q3
def g_X11_rowPart (M : MS) (p1 : Int32) (p2 : Int32) : Option (Int32) :=
  if p2 = 0 then
    (ix p1 960).bind fun j1 =>
    some (mA M 4 j1)
  else if p2 = 1 then
    (ix p1 960).bind fun j3 =>
    some (mA M 5 j3)
  else if p2 = 2 then
    (ix p1 960).bind fun j5 =>
    some (mA M 10 j5)
  else if p2 = 3 then
    (ix p1 960).bind fun j7 =>
    some (mA M 11 j7)
  else if p2 = 4 then
    (ix p1 960).bind fun j9 =>
    some (mA M 6 j9)
  else if p2 = 5 then
    (ix p1 960).bind fun j11 =>
    some (mA M 7 j11)
  else if p2 = 6 then
    (g_X11_shown M p1).bind fun q13 =>
    some q13
  else if p2 = 7 then
    (ix p1 960).bind fun j15 =>
    some (mA M 8 j15)
  else 
    (ix p1 960).bind fun j17 =>
    (ix p1 960).bind fun j19 =>
    some ((mA M 6 j17) + (mA M 7 j19))
def g_X11_row (M : MS) (p1 : Int32) (p2 : Int32) : Option (Int32 × MS) :=
  if p1 < 0 then
    some ((-2), M)
  else
    (g_X11_in M p2 0 8).bind fun q2 =>
    if ¬ q2 = 0 then
      (g_X11_draws M).bind fun q5 =>
      if (mF q5 17) ≤ p1 then
        some ((-1), q5)
      else
        (g_X11_rowPart q5 p1 p2).bind fun q8 =>
        some (q8, q5)
    else
      some ((-2), M)
def g_X11_byteAt (M : MS) (p1 : Int32) (p2 : Int32) : Option (Int32) :=
  (ix p1 960).bind fun j1 =>
  (ix p1 960).bind fun j3 =>
  (g_X11_in M (p2 - (mA M 6 j1)) 0 ((mA M 7 j3) - 1)).bind fun q5 =>
  if q5 = 0 then
    some 32
  else
    (ix p1 960).bind fun j8 =>
    (ix p1 960).bind fun j10 =>
    (g_X11_of M (mA M 4 j8) ((5 + (mA M 9 j10)) + (p2 - (mA M 6 j1)))).bind fun q12 =>
    some q12
def LGX11_at_60 : Nat → (MS) → (Int32) → (Int32) → (Int32) → (Int32) → Option ((Int32 × MS) ⊕ (Unit))
  | 0, _, _, _, _, _ => none
  | n + 1, μ, l1, l2, l3, v4 =>
    if (mF μ 17) ≤ v4 then
      some (.inr ())
    else
      (ix v4 960).bind fun j20 =>
      sb (if ¬ (mA μ 10 j20) = l1 then
        some (.inr ())
      else
        (ix v4 960).bind fun j24 =>
        if ¬ (mA μ 11 j24) = l2 then
          some (.inr ())
        else
          (g_X11_byteAt μ v4 l3).bind fun q27 =>
          some (.inl (.inl (q27, μ)))) fun (wx22 : Unit) =>
      LGX11_at_60 n μ l1 l2 l3 (v4 + 1)
def g_X11_at (M : MS) (p1 : Int32) (p2 : Int32) (p3 : Int32) : Option (Int32 × MS) :=
  (g_X11_draws M).bind fun q1 =>
  (g_X11_pages q1).bind fun q3 =>
  (g_X11_in q1 p1 0 (q3 - 1)).bind fun q5 =>
  if q5 = 0 then
    some ((-2), q1)
  else
    (ix 2042 2046).bind fun j8 =>
    (g_X11_in q1 p2 0 ((mA q1 0 j8) - 1)).bind fun q10 =>
    if q10 = 0 then
      some ((-2), q1)
    else
      (ix 2041 2046).bind fun j13 =>
      (g_X11_in q1 p3 0 ((mA q1 0 j13) - 1)).bind fun q15 =>
      if ¬ q15 = 0 then
        sb (LGX11_at_60 FU q1 p1 p2 p3 0) fun wx18 =>
        some (32, q1)
      else
        some ((-2), q1)
def LGX11_firstOn_2 : Nat → (MS) → (Int32) → (Int32) → Option (Int32)
  | 0, _, _, _ => none
  | n + 1, μ, l1, v2 =>
    (ix v2 960).bind fun j2 =>
    if (mA μ 10 j2) = l1 then
      some v2
    else
      LGX11_firstOn_2 n μ l1 (v2 + 1)
def g_X11_firstOn (M : MS) (p1 : Int32) : Option (Int32) :=
  (LGX11_firstOn_2 FU M p1 0).bind fun x1 =>
  some x1
def g_X11_isMarked (M : MS) (p1 : Int32) : Option (Int32) :=
  (g_X11_pages M).bind fun q1 =>
  if (p1 + 1) < q1 then
    (g_X11_firstOn M (p1 + 1)).bind fun q4 =>
    (ix q4 960).bind fun j6 =>
    if ¬ (mA M 5 j6) = 0 then
      some 0
    else
      (ix q4 960).bind fun j9 =>
      (g_X11_beginsStanza M (mA M 4 j9)).bind fun q11 =>
      if q11 = 0 then
        some 0
      else
        some 1
  else
    some 0
def LGX11_pagePart_11 : Nat → (MS) → (Int32) → (Int32) → (Int32) → (Int32) → (Int32) → (Int32) → Option (Int32 × Int32 × Int32)
  | 0, _, _, _, _, _, _, _ => none
  | n + 1, μ, l1, l2, v3, v4, v5, v6 =>
    if (mF μ 17) ≤ v6 then
      some (v3, v4, v5)
    else
      (ix v6 960).bind fun j3 =>
      (if ¬ (mA μ 10 j3) = l1 then
        some (v3, v4, v5)
      else
        (ix v6 960).bind fun j7 =>
        (ix v6 960).bind fun j9 =>
        (if ¬ (mA μ 5 j9) = 0 then
          some 0
        else
          some 1).bind fun (x11 : Int32) =>
        some ((v3 + 1), (mA μ 11 j7), (v5 + x11))).bind fun (x5 : Int32 × Int32 × Int32) =>
      LGX11_pagePart_11 n μ l1 l2 x5.1 x5.2.1 x5.2.2 (v6 + 1)
def g_X11_pagePart (M : MS) (p1 : Int32) (p2 : Int32) : Option (Int32) :=
  (LGX11_pagePart_11 FU M p1 p2 0 0 0 0).bind fun x1 =>
  if p2 = 0 then
    some x1.1
  else if p2 = 1 then
    some (x1.2.1 + 1)
  else if p2 = 2 then
    (g_X11_isMarked M p1).bind fun q13 =>
    if q13 = 0 then
      some 0
    else
      some 1
  else if p2 = 3 then
    (g_X11_firstOn M p1).bind fun q16 =>
    some q16
  else 
    some x1.2.2
def g_X11_page (M : MS) (p1 : Int32) (p2 : Int32) : Option (Int32 × MS) :=
  (g_X11_draws M).bind fun q1 =>
  (g_X11_pages q1).bind fun q3 =>
  (g_X11_in q1 p1 0 (q3 - 1)).bind fun q5 =>
  if q5 = 0 then
    some ((-2), q1)
  else
    (g_X11_in q1 p2 0 4).bind fun q8 =>
    if q8 = 0 then
      some ((-2), q1)
    else
      (g_X11_pagePart q1 p1 p2).bind fun q11 =>
      some (q11, q1)
def g_X11_aim (M : MS) (p1 : Int32) (p2 : Int32) (p3 : Int32) (p4 : Int32) : Option (Int32) :=
  if p1 = 0 then
    some p2
  else if p1 = 1 then
    (nz p3).bind fun w1 =>
    some ((p2 * (p4 + 1)) / p3)
  else if p1 = 2 then
    (g_X11_lesser M (p4 + 1) (p3 - p4)).bind fun q3 =>
    (nz (p3 + 1)).bind fun w5 =>
    (g_X11_lesser M p2 (((2 * p2) * q3) / (p3 + 1))).bind fun q7 =>
    some q7
  else 
    if (p4 + 1) ≤ (p3 - p4) then
      (nz p3).bind fun w10 =>
      some ((p2 * (p3 - p4)) / p3)
    else
      (nz p3).bind fun w12 =>
      some ((p2 * (p4 + 1)) / p3)
def LGX11_far_11 : Nat → (MS) → (Int32) → (Int32) → (Int32) → (Int32) → (Int32) → (Int32) → Option (Int32 × Int32 × Int32)
  | 0, _, _, _, _, _, _, _ => none
  | n + 1, μ, l1, l2, v3, v4, v5, v6 =>
    if (mF μ 17) ≤ v6 then
      some (v3, v4, v5)
    else
      (ix v6 960).bind fun j3 =>
      (ix (mA μ 4 j3) 24).bind fun j5 =>
      (if ¬ (mA μ 12 j5) = l1 then
        some (v3, v4, v5)
      else
        (if ¬ v3 = (-1) then
          some v3
        else
          some v6).bind fun (x9 : Int32) =>
        (ix v6 960).bind fun j11 =>
        (ix v6 960).bind fun j13 =>
        (if ((mA μ 6 j11) + (mA μ 7 j13)) ≤ v5 then
          some v5
        else
          some ((mA μ 6 j11) + (mA μ 7 j13))).bind fun (x15 : Int32) =>
        some (x9, (v4 + 1), x15)).bind fun (x7 : Int32 × Int32 × Int32) =>
      LGX11_far_11 n μ l1 l2 x7.1 x7.2.1 x7.2.2 (v6 + 1)
def LGX11_far_96 : Nat → (MS) → (Int32) → (Int32) → (Int32) → (Int32) → (Int32) → (Int32) → Option (Int32)
  | 0, _, _, _, _, _, _, _ => none
  | n + 1, μ, l2, l3, l4, l5, v6, v7 =>
    if l4 ≤ v7 then
      some v6
    else
      (ix (l3 + v7) 960).bind fun j19 =>
      (ix (l3 + v7) 960).bind fun j21 =>
      (g_X11_aim μ l2 l5 l4 v7).bind fun q23 =>
      (if 0 ≤ (((mA μ 6 j19) + (mA μ 7 j21)) - q23) then
        some (((mA μ 6 j19) + (mA μ 7 j21)) - q23)
      else
        some (-(((mA μ 6 j19) + (mA μ 7 j21)) - q23))).bind fun (x25 : Int32) =>
      LGX11_far_96 n μ l2 l3 l4 l5 (v6 + x25) (v7 + 1)
def g_X11_far (M : MS) (p1 : Int32) (p2 : Int32) : Option (Int32) :=
  (LGX11_far_11 FU M p1 p2 (-1) 0 0 0).bind fun x1 =>
  (LGX11_far_96 FU M p2 x1.1 x1.2.1 x1.2.2 0 0).bind fun x17 =>
  some x17
def LGX11_nearest_4 : Nat → (MS) → (Int32) → (Int32) → (Int32) → Option (Int32)
  | 0, _, _, _, _ => none
  | n + 1, μ, l1, v2, v3 =>
    if 4 ≤ v3 then
      some v2
    else
      (g_X11_far μ l1 v3).bind fun q3 =>
      (g_X11_far μ l1 v2).bind fun q5 =>
      (if q5 ≤ q3 then
        some v2
      else
        some v3).bind fun (x7 : Int32) =>
      LGX11_nearest_4 n μ l1 x7 (v3 + 1)
def g_X11_nearest (M : MS) (p1 : Int32) : Option (Int32) :=
  (LGX11_nearest_4 FU M p1 0 1).bind fun x1 =>
  some x1
def g_X11_distance (M : MS) (p1 : Int32) : Option (Int32 × MS) :=
  (g_X11_stanzas M).bind fun q1 =>
  (g_X11_in M p1 0 (q1 - 1)).bind fun q3 =>
  if ¬ q3 = 0 then
    (g_X11_readsShape M).bind fun q6 =>
    if (mF q6 6) = (-1) then
      (g_X11_draws q6).bind fun q9 =>
      (g_X11_far q9 p1 (mF q9 8)).bind fun q11 =>
      some (q11, q9)
    else
      some (((-2000) - (mF q6 6)), q6)
  else
    some ((-2), M)
def g_X11_shape (M : MS) (p1 : Int32) : Option (Int32 × MS) :=
  (g_X11_stanzas M).bind fun q1 =>
  (g_X11_in M p1 0 (q1 - 1)).bind fun q3 =>
  if ¬ q3 = 0 then
    (g_X11_draws M).bind fun q6 =>
    (g_X11_nearest q6 p1).bind fun q8 =>
    some (q8, q6)
  else
    some ((-2), M)
def g_X11_overRows (M : MS) : Option (Int32) :=
  (ix 2040 2046).bind fun j1 =>
  some ((mF M 17) - (mA M 0 j1))
def LGX11_withinRows_4 : Nat → (MS) → (Int32) → (Int32) → Option (Int32)
  | 0, _, _, _ => none
  | n + 1, μ, v1, v2 =>
    if (mF μ 17) ≤ v2 then
      some v1
    else
      (ix v2 960).bind fun j3 =>
      LGX11_withinRows_4 n μ (v1 + (mA μ 8 j3)) (v2 + 1)
def g_X11_withinRows (M : MS) : Option (Int32) :=
  (LGX11_withinRows_4 FU M 0 0).bind fun x1 =>
  some x1
def LGX11_bestWidth_44 : Nat → (Int32) → (Int32) → (Int32) → (Int32) → (Int32) → (MS) → Option (Int32 × MS)
  | 0, _, _, _, _, _, _ => none
  | n + 1, l1, l2, v3, v4, v5, μ =>
    if 60 < v5 then
      some (v3, μ)
    else
      (ix 2041 2046).bind fun j11 =>
      (g_X11_draws (eA μ 0 j11 v5)).bind fun q13 =>
      (if ¬ l1 = 0 then
        if ¬ l1 = 1 then
          (g_X11_withinRows q13).bind fun q18 =>
          some q18
        else
          (g_X11_overRows q13).bind fun q20 =>
          some q20
      else
        (g_X11_pages q13).bind fun q22 =>
        some q22).bind fun (x15 : Int32) =>
      (if v3 = (-1) then
        some 1
      else
        if v4 ≤ x15 then
          some 0
        else
          some 1).bind fun (x24 : Int32) =>
      (if x24 = 0 then
        some v3
      else
        some v5).bind fun (x27 : Int32) =>
      (if x24 = 0 then
        some v4
      else
        some x15).bind fun (x29 : Int32) =>
      LGX11_bestWidth_44 n l1 l2 x27 x29 (v5 + 1) q13
def g_X11_bestWidth (M : MS) (p1 : Int32) : Option (Int32 × MS) :=
  (g_X11_in M p1 0 2).bind fun q1 =>
  if ¬ q1 = 0 then
    (ix 2040 2046).bind fun j4 =>
    if ¬ (mA M 0 j4) = 0 then
      (ix 2041 2046).bind fun j7 =>
      (LGX11_bestWidth_44 FU p1 (mA M 0 j7) (-1) 0 12 M).bind fun x9 =>
      (ix 2041 2046).bind fun j31 =>
      some (x9.1, (eA x9.2 0 j31 (mA M 0 j7)))
    else
      some ((-3), M)
  else
    some ((-2), M)
def LGX11_leastHeight_28 : Nat → (Int32) → (Int32) → (Int32) → (Int32) → (MS) → Option (Int32 × MS)
  | 0, _, _, _, _, _ => none
  | n + 1, l1, l2, v3, v4, μ =>
    if v4 < 4 then
      some (v3, μ)
    else
      (ix 2042 2046).bind fun j8 =>
      (g_X11_draws (eA μ 0 j8 v4)).bind fun q10 =>
      (g_X11_pages q10).bind fun q12 =>
      (if l1 < q12 then
        some v3
      else
        some v4).bind fun (x14 : Int32) =>
      LGX11_leastHeight_28 n l1 l2 x14 (v4 + (-1)) q10
def g_X11_leastHeight (M : MS) (p1 : Int32) : Option (Int32 × MS) :=
  (g_X11_in M p1 1 99).bind fun q1 =>
  if ¬ q1 = 0 then
    (ix 2042 2046).bind fun j4 =>
    (LGX11_leastHeight_28 FU p1 (mA M 0 j4) (-1) 30 M).bind fun x6 =>
    (ix 2042 2046).bind fun j16 =>
    some (x6.1, (eA x6.2 0 j16 (mA M 0 j4)))
  else
    some ((-2), M)
def LGX11_marked_4 : Nat → (MS) → (Int32) → (Int32) → Option (Int32)
  | 0, _, _, _ => none
  | n + 1, μ, v1, v2 =>
    (g_X11_pages μ).bind fun q2 =>
    if q2 ≤ v2 then
      some v1
    else
      (g_X11_isMarked μ v2).bind fun q5 =>
      (if q5 = 0 then
        some 0
      else
        some 1).bind fun (x7 : Int32) =>
      LGX11_marked_4 n μ (v1 + x7) (v2 + 1)
def g_X11_marked (M : MS) : Option (Int32) :=
  (LGX11_marked_4 FU M 0 0).bind fun x1 =>
  some x1
def LGX11_widest_4 : Nat → (MS) → (Int32) → (Int32) → Option (Int32)
  | 0, _, _, _ => none
  | n + 1, μ, v1, v2 =>
    if (mF μ 17) ≤ v2 then
      some v1
    else
      (ix v2 960).bind fun j3 =>
      (ix v2 960).bind fun j5 =>
      (if ((mA μ 6 j3) + (mA μ 7 j5)) ≤ v1 then
        some v1
      else
        some ((mA μ 6 j3) + (mA μ 7 j5))).bind fun (x7 : Int32) =>
      LGX11_widest_4 n μ x7 (v2 + 1)
def g_X11_widest (M : MS) : Option (Int32) :=
  (LGX11_widest_4 FU M 0 0).bind fun x1 =>
  some x1
def g_X11_number (M : MS) (p1 : Int32) : Option (Int32) :=
  if p1 = 0 then
    (ix 2040 2046).bind fun j1 =>
    some (mA M 0 j1)
  else if p1 = 1 then
    (g_X11_stanzas M).bind fun q3 =>
    some q3
  else if p1 = 2 then
    some (mF M 17)
  else if p1 = 3 then
    (g_X11_pages M).bind fun q5 =>
    some q5
  else if p1 = 4 then
    (g_X11_overRows M).bind fun q7 =>
    some q7
  else if p1 = 5 then
    (g_X11_withinRows M).bind fun q9 =>
    some q9
  else if p1 = 6 then
    (g_X11_marked M).bind fun q11 =>
    some q11
  else if p1 = 7 then
    (ix 2040 2046).bind fun j13 =>
    (g_X11_numberOf M ((mA M 0 j13) - 1)).bind fun q15 =>
    some q15
  else if p1 = 8 then
    (g_X11_widest M).bind fun q17 =>
    some q17
  else if p1 = 9 then
    some (mF M 2)
  else if p1 = 10 then
    some (mF M 4)
  else 
    (ix ((2041 + p1) - 11) 2046).bind fun j19 =>
    some (mA M 0 j19)
def g_X11_count (M : MS) (p1 : Int32) : Option (Int32 × MS) :=
  (g_X11_in M p1 0 15).bind fun q1 =>
  if ¬ q1 = 0 then
    (g_X11_draws M).bind fun q4 =>
    (g_X11_number q4 p1).bind fun q6 =>
    some (q6, q4)
  else
    some ((-2), M)
def g_X11_mixes (M : MS) (p1 : Int64) : Option (MS) :=
  some (eJ M ((31 * (mJ M)) + p1))
def LGX11_digest_13 : Nat → (Int32) → (MS) → Option (MS)
  | 0, _, _ => none
  | n + 1, v1, μ =>
    if 16 ≤ v1 then
      some μ
    else
      (g_X11_number μ v1).bind fun q5 =>
      (g_X11_mixes μ ((q5).toInt64)).bind fun q7 =>
      LGX11_digest_13 n (v1 + 1) q7
def LGX11_digest_37 : Nat → (Int32) → (MS) → Option (MS)
  | 0, _, _ => none
  | n + 1, v1, μ =>
    (ix 2040 2046).bind fun j10 =>
    if (10 * (mA μ 0 j10)) ≤ v1 then
      some μ
    else
      (nz 10).bind fun w13 =>
      (nz 10).bind fun w15 =>
      (g_X11_linePart μ (v1 / 10) (v1 - v1 / 10 * 10)).bind fun q17 =>
      (g_X11_mixes μ ((q17).toInt64)).bind fun q19 =>
      LGX11_digest_37 n (v1 + 1) q19
def LGX11_digest_77 : Nat → (Int32) → (MS) → Option (MS)
  | 0, _, _ => none
  | n + 1, v1, μ =>
    if (9 * (mF μ 17)) ≤ v1 then
      some μ
    else
      (nz 9).bind fun w23 =>
      (nz 9).bind fun w25 =>
      (g_X11_rowPart μ (v1 / 9) (v1 - v1 / 9 * 9)).bind fun q27 =>
      (g_X11_mixes μ ((q27).toInt64)).bind fun q29 =>
      LGX11_digest_77 n (v1 + 1) q29
def LGX11_digest_113 : Nat → (Int32) → (MS) → Option (MS)
  | 0, _, _ => none
  | n + 1, v1, μ =>
    (g_X11_pages μ).bind fun q32 =>
    if (5 * q32) ≤ v1 then
      some μ
    else
      (nz 5).bind fun w35 =>
      (nz 5).bind fun w37 =>
      (g_X11_pagePart μ (v1 / 5) (v1 - v1 / 5 * 5)).bind fun q39 =>
      (g_X11_mixes μ ((q39).toInt64)).bind fun q41 =>
      LGX11_digest_113 n (v1 + 1) q41
def LGX11_digest_146 : Nat → (Int32) → (MS) → Option (MS)
  | 0, _, _ => none
  | n + 1, v1, μ =>
    (ix 2041 2046).bind fun j44 =>
    if ((mA μ 0 j44) * (mF μ 17)) ≤ v1 then
      some μ
    else
      (ix 2041 2046).bind fun j47 =>
      (nz (mA μ 0 j47)).bind fun w49 =>
      (ix 2041 2046).bind fun j51 =>
      (nz (mA μ 0 j51)).bind fun w53 =>
      (g_X11_byteAt μ (v1 / (mA μ 0 j47)) (v1 - v1 / (mA μ 0 j51) * (mA μ 0 j51))).bind fun q55 =>
      (g_X11_mixes μ ((q55).toInt64)).bind fun q57 =>
      LGX11_digest_146 n (v1 + 1) q57
def LGX11_digest_200 : Nat → (Int32) → (MS) → Option (MS)
  | 0, _, _ => none
  | n + 1, v1, μ =>
    (g_X11_stanzas μ).bind fun q60 =>
    if q60 ≤ v1 then
      some μ
    else
      (g_X11_nearest μ v1).bind fun q63 =>
      (g_X11_mixes μ ((q63).toInt64)).bind fun q65 =>
      LGX11_digest_200 n (v1 + 1) q65
def LGX11_digest_226 : Nat → (Int32) → (MS) → Option (MS)
  | 0, _, _ => none
  | n + 1, v1, μ =>
    if (mF μ 4) ≤ v1 then
      some μ
    else
      (ix v1 80).bind fun j69 =>
      (g_X11_mixes μ (((mA μ 2 j69)).toInt64)).bind fun q71 =>
      LGX11_digest_226 n (v1 + 1) q71
def g_X11_digest (M : MS) : Option (Int64 × MS) :=
  (g_X11_draws (eJ M 805)).bind fun q1 =>
  (LGX11_digest_13 FU 0 q1).bind fun x3 =>
  (LGX11_digest_37 FU 0 x3).bind fun x9 =>
  (LGX11_digest_77 FU 0 x9).bind fun x21 =>
  (LGX11_digest_113 FU 0 x21).bind fun x31 =>
  (LGX11_digest_146 FU 0 x31).bind fun x43 =>
  (LGX11_digest_200 FU 0 x43).bind fun x59 =>
  (LGX11_digest_226 FU 0 x59).bind fun x67 =>
  some ((mJ x67), x67)

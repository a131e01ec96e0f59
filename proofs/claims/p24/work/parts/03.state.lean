abbrev St : Type := (Nat) × (Nat) × (Nat) × (Nat → Nat) × (Nat → Nat) × (Nat → Nat → Int32) × (Nat → Nat → Option Nat) × (Nat → Nat → Int64) × (Nat → Nat → Int32) × (Nat → Nat → Option Nat) × (Nat → Nat)
def hpN (σ : St) : Nat := σ.1
def hpC (σ : St) : Nat := σ.2.1
def hpS (σ : St) : Nat := σ.2.2.1
def hpK (σ : St) (a : Nat) : Nat := σ.2.2.2.1 a
def hpL (σ : St) (a : Nat) : Nat := σ.2.2.2.2.1 a
def hpI (σ : St) (f a : Nat) : Int32 := σ.2.2.2.2.2.1 f a
def hpR (σ : St) (f a : Nat) : Option Nat := σ.2.2.2.2.2.2.1 f a
def hpJ (σ : St) (f a : Nat) : Int64 := σ.2.2.2.2.2.2.2.1 f a
def hpA (σ : St) (a j : Nat) : Int32 := σ.2.2.2.2.2.2.2.2.1 a j
def hpB (σ : St) (a j : Nat) : Option Nat := σ.2.2.2.2.2.2.2.2.2.1 a j
def hpG (σ : St) (i : Nat) : Nat := σ.2.2.2.2.2.2.2.2.2.2 i
def up2 {α : Type} (F : Nat → Nat → α) (f a : Nat) (v : α) : Nat → Nat → α := fun f1 a1 => if f1 = f ∧ a1 = a then v else F f1 a1
def stI (σ : St) (f a : Nat) (v : Int32) : St := (σ.1, σ.2.1, σ.2.2.1, σ.2.2.2.1, σ.2.2.2.2.1, up2 σ.2.2.2.2.2.1 f a v, σ.2.2.2.2.2.2.1, σ.2.2.2.2.2.2.2.1, σ.2.2.2.2.2.2.2.2.1, σ.2.2.2.2.2.2.2.2.2.1, σ.2.2.2.2.2.2.2.2.2.2)
def stR (σ : St) (f a : Nat) (v : Option Nat) : St := (σ.1, σ.2.1, σ.2.2.1, σ.2.2.2.1, σ.2.2.2.2.1, σ.2.2.2.2.2.1, up2 σ.2.2.2.2.2.2.1 f a v, σ.2.2.2.2.2.2.2.1, σ.2.2.2.2.2.2.2.2.1, σ.2.2.2.2.2.2.2.2.2.1, σ.2.2.2.2.2.2.2.2.2.2)
def stJ (σ : St) (f a : Nat) (v : Int64) : St := (σ.1, σ.2.1, σ.2.2.1, σ.2.2.2.1, σ.2.2.2.2.1, σ.2.2.2.2.2.1, σ.2.2.2.2.2.2.1, up2 σ.2.2.2.2.2.2.2.1 f a v, σ.2.2.2.2.2.2.2.2.1, σ.2.2.2.2.2.2.2.2.2.1, σ.2.2.2.2.2.2.2.2.2.2)
def stA (σ : St) (a j : Nat) (v : Int32) : St := (σ.1, σ.2.1, σ.2.2.1, σ.2.2.2.1, σ.2.2.2.2.1, σ.2.2.2.2.2.1, σ.2.2.2.2.2.2.1, σ.2.2.2.2.2.2.2.1, up2 σ.2.2.2.2.2.2.2.2.1 a j v, σ.2.2.2.2.2.2.2.2.2.1, σ.2.2.2.2.2.2.2.2.2.2)
def stB (σ : St) (a j : Nat) (v : Option Nat) : St := (σ.1, σ.2.1, σ.2.2.1, σ.2.2.2.1, σ.2.2.2.2.1, σ.2.2.2.2.2.1, σ.2.2.2.2.2.2.1, σ.2.2.2.2.2.2.2.1, σ.2.2.2.2.2.2.2.2.1, up2 σ.2.2.2.2.2.2.2.2.2.1 a j v, σ.2.2.2.2.2.2.2.2.2.2)
/-- a new cell at hpN σ: its kind, its length, its slots; all in it is 0 or null -/
def nw (σ : St) (k len sz : Nat) : St := (σ.1 + 1, σ.2.1 + 1, σ.2.2.1 + sz, fun a => if a = σ.1 then k else σ.2.2.2.1 a, fun a => if a = σ.1 then len else σ.2.2.2.2.1 a, fun f a => if a = σ.1 then 0 else σ.2.2.2.2.2.1 f a, fun f a => if a = σ.1 then none else σ.2.2.2.2.2.2.1 f a, fun f a => if a = σ.1 then 0 else σ.2.2.2.2.2.2.2.1 f a, fun a j => if a = σ.1 then 0 else σ.2.2.2.2.2.2.2.2.1 a j, fun a j => if a = σ.1 then none else σ.2.2.2.2.2.2.2.2.2.1 a j, σ.2.2.2.2.2.2.2.2.2.2)
theorem hpN_stI (σ : St) (f0 a0 : Nat) (v : Int32) : hpN (stI σ f0 a0 v) = hpN σ := rfl
theorem hpC_stI (σ : St) (f0 a0 : Nat) (v : Int32) : hpC (stI σ f0 a0 v) = hpC σ := rfl
theorem hpS_stI (σ : St) (f0 a0 : Nat) (v : Int32) : hpS (stI σ f0 a0 v) = hpS σ := rfl
theorem hpK_stI (σ : St) (f0 a0 : Nat) (v : Int32) (a : Nat) : hpK (stI σ f0 a0 v) a = hpK σ a := rfl
theorem hpL_stI (σ : St) (f0 a0 : Nat) (v : Int32) (a : Nat) : hpL (stI σ f0 a0 v) a = hpL σ a := rfl
theorem hpI_stI (σ : St) (f0 a0 : Nat) (v : Int32) (f a : Nat) : hpI (stI σ f0 a0 v) f a = if f = f0 ∧ a = a0 then v else hpI σ f a := rfl
theorem hpR_stI (σ : St) (f0 a0 : Nat) (v : Int32) (f a : Nat) : hpR (stI σ f0 a0 v) f a = hpR σ f a := rfl
theorem hpJ_stI (σ : St) (f0 a0 : Nat) (v : Int32) (f a : Nat) : hpJ (stI σ f0 a0 v) f a = hpJ σ f a := rfl
theorem hpA_stI (σ : St) (f0 a0 : Nat) (v : Int32) (a j : Nat) : hpA (stI σ f0 a0 v) a j = hpA σ a j := rfl
theorem hpB_stI (σ : St) (f0 a0 : Nat) (v : Int32) (a j : Nat) : hpB (stI σ f0 a0 v) a j = hpB σ a j := rfl
theorem hpG_stI (σ : St) (f0 a0 : Nat) (v : Int32) (i : Nat) : hpG (stI σ f0 a0 v) i = hpG σ i := rfl
theorem hpN_stR (σ : St) (f0 a0 : Nat) (v : Option Nat) : hpN (stR σ f0 a0 v) = hpN σ := rfl
theorem hpC_stR (σ : St) (f0 a0 : Nat) (v : Option Nat) : hpC (stR σ f0 a0 v) = hpC σ := rfl
theorem hpS_stR (σ : St) (f0 a0 : Nat) (v : Option Nat) : hpS (stR σ f0 a0 v) = hpS σ := rfl
theorem hpK_stR (σ : St) (f0 a0 : Nat) (v : Option Nat) (a : Nat) : hpK (stR σ f0 a0 v) a = hpK σ a := rfl
theorem hpL_stR (σ : St) (f0 a0 : Nat) (v : Option Nat) (a : Nat) : hpL (stR σ f0 a0 v) a = hpL σ a := rfl
theorem hpI_stR (σ : St) (f0 a0 : Nat) (v : Option Nat) (f a : Nat) : hpI (stR σ f0 a0 v) f a = hpI σ f a := rfl
theorem hpR_stR (σ : St) (f0 a0 : Nat) (v : Option Nat) (f a : Nat) : hpR (stR σ f0 a0 v) f a = if f = f0 ∧ a = a0 then v else hpR σ f a := rfl
theorem hpJ_stR (σ : St) (f0 a0 : Nat) (v : Option Nat) (f a : Nat) : hpJ (stR σ f0 a0 v) f a = hpJ σ f a := rfl
theorem hpA_stR (σ : St) (f0 a0 : Nat) (v : Option Nat) (a j : Nat) : hpA (stR σ f0 a0 v) a j = hpA σ a j := rfl
theorem hpB_stR (σ : St) (f0 a0 : Nat) (v : Option Nat) (a j : Nat) : hpB (stR σ f0 a0 v) a j = hpB σ a j := rfl
theorem hpG_stR (σ : St) (f0 a0 : Nat) (v : Option Nat) (i : Nat) : hpG (stR σ f0 a0 v) i = hpG σ i := rfl
theorem hpN_stJ (σ : St) (f0 a0 : Nat) (v : Int64) : hpN (stJ σ f0 a0 v) = hpN σ := rfl
theorem hpC_stJ (σ : St) (f0 a0 : Nat) (v : Int64) : hpC (stJ σ f0 a0 v) = hpC σ := rfl
theorem hpS_stJ (σ : St) (f0 a0 : Nat) (v : Int64) : hpS (stJ σ f0 a0 v) = hpS σ := rfl
theorem hpK_stJ (σ : St) (f0 a0 : Nat) (v : Int64) (a : Nat) : hpK (stJ σ f0 a0 v) a = hpK σ a := rfl
theorem hpL_stJ (σ : St) (f0 a0 : Nat) (v : Int64) (a : Nat) : hpL (stJ σ f0 a0 v) a = hpL σ a := rfl
theorem hpI_stJ (σ : St) (f0 a0 : Nat) (v : Int64) (f a : Nat) : hpI (stJ σ f0 a0 v) f a = hpI σ f a := rfl
theorem hpR_stJ (σ : St) (f0 a0 : Nat) (v : Int64) (f a : Nat) : hpR (stJ σ f0 a0 v) f a = hpR σ f a := rfl
theorem hpJ_stJ (σ : St) (f0 a0 : Nat) (v : Int64) (f a : Nat) : hpJ (stJ σ f0 a0 v) f a = if f = f0 ∧ a = a0 then v else hpJ σ f a := rfl
theorem hpA_stJ (σ : St) (f0 a0 : Nat) (v : Int64) (a j : Nat) : hpA (stJ σ f0 a0 v) a j = hpA σ a j := rfl
theorem hpB_stJ (σ : St) (f0 a0 : Nat) (v : Int64) (a j : Nat) : hpB (stJ σ f0 a0 v) a j = hpB σ a j := rfl
theorem hpG_stJ (σ : St) (f0 a0 : Nat) (v : Int64) (i : Nat) : hpG (stJ σ f0 a0 v) i = hpG σ i := rfl
theorem hpN_stA (σ : St) (a0 j0 : Nat) (v : Int32) : hpN (stA σ a0 j0 v) = hpN σ := rfl
theorem hpC_stA (σ : St) (a0 j0 : Nat) (v : Int32) : hpC (stA σ a0 j0 v) = hpC σ := rfl
theorem hpS_stA (σ : St) (a0 j0 : Nat) (v : Int32) : hpS (stA σ a0 j0 v) = hpS σ := rfl
theorem hpK_stA (σ : St) (a0 j0 : Nat) (v : Int32) (a : Nat) : hpK (stA σ a0 j0 v) a = hpK σ a := rfl
theorem hpL_stA (σ : St) (a0 j0 : Nat) (v : Int32) (a : Nat) : hpL (stA σ a0 j0 v) a = hpL σ a := rfl
theorem hpI_stA (σ : St) (a0 j0 : Nat) (v : Int32) (f a : Nat) : hpI (stA σ a0 j0 v) f a = hpI σ f a := rfl
theorem hpR_stA (σ : St) (a0 j0 : Nat) (v : Int32) (f a : Nat) : hpR (stA σ a0 j0 v) f a = hpR σ f a := rfl
theorem hpJ_stA (σ : St) (a0 j0 : Nat) (v : Int32) (f a : Nat) : hpJ (stA σ a0 j0 v) f a = hpJ σ f a := rfl
theorem hpA_stA (σ : St) (a0 j0 : Nat) (v : Int32) (a j : Nat) : hpA (stA σ a0 j0 v) a j = if a = a0 ∧ j = j0 then v else hpA σ a j := rfl
theorem hpB_stA (σ : St) (a0 j0 : Nat) (v : Int32) (a j : Nat) : hpB (stA σ a0 j0 v) a j = hpB σ a j := rfl
theorem hpG_stA (σ : St) (a0 j0 : Nat) (v : Int32) (i : Nat) : hpG (stA σ a0 j0 v) i = hpG σ i := rfl
theorem hpN_stB (σ : St) (a0 j0 : Nat) (v : Option Nat) : hpN (stB σ a0 j0 v) = hpN σ := rfl
theorem hpC_stB (σ : St) (a0 j0 : Nat) (v : Option Nat) : hpC (stB σ a0 j0 v) = hpC σ := rfl
theorem hpS_stB (σ : St) (a0 j0 : Nat) (v : Option Nat) : hpS (stB σ a0 j0 v) = hpS σ := rfl
theorem hpK_stB (σ : St) (a0 j0 : Nat) (v : Option Nat) (a : Nat) : hpK (stB σ a0 j0 v) a = hpK σ a := rfl
theorem hpL_stB (σ : St) (a0 j0 : Nat) (v : Option Nat) (a : Nat) : hpL (stB σ a0 j0 v) a = hpL σ a := rfl
theorem hpI_stB (σ : St) (a0 j0 : Nat) (v : Option Nat) (f a : Nat) : hpI (stB σ a0 j0 v) f a = hpI σ f a := rfl
theorem hpR_stB (σ : St) (a0 j0 : Nat) (v : Option Nat) (f a : Nat) : hpR (stB σ a0 j0 v) f a = hpR σ f a := rfl
theorem hpJ_stB (σ : St) (a0 j0 : Nat) (v : Option Nat) (f a : Nat) : hpJ (stB σ a0 j0 v) f a = hpJ σ f a := rfl
theorem hpA_stB (σ : St) (a0 j0 : Nat) (v : Option Nat) (a j : Nat) : hpA (stB σ a0 j0 v) a j = hpA σ a j := rfl
theorem hpB_stB (σ : St) (a0 j0 : Nat) (v : Option Nat) (a j : Nat) : hpB (stB σ a0 j0 v) a j = if a = a0 ∧ j = j0 then v else hpB σ a j := rfl
theorem hpG_stB (σ : St) (a0 j0 : Nat) (v : Option Nat) (i : Nat) : hpG (stB σ a0 j0 v) i = hpG σ i := rfl
theorem hpN_nw (σ : St) (k len sz : Nat) : hpN (nw σ k len sz) = hpN σ + 1 := rfl
theorem hpC_nw (σ : St) (k len sz : Nat) : hpC (nw σ k len sz) = hpC σ + 1 := rfl
theorem hpS_nw (σ : St) (k len sz : Nat) : hpS (nw σ k len sz) = hpS σ + sz := rfl
theorem hpK_nw (σ : St) (k len sz : Nat) (a : Nat) : hpK (nw σ k len sz) a = if a = hpN σ then k else hpK σ a := rfl
theorem hpL_nw (σ : St) (k len sz : Nat) (a : Nat) : hpL (nw σ k len sz) a = if a = hpN σ then len else hpL σ a := rfl
theorem hpI_nw (σ : St) (k len sz : Nat) (f a : Nat) : hpI (nw σ k len sz) f a = if a = hpN σ then 0 else hpI σ f a := rfl
theorem hpR_nw (σ : St) (k len sz : Nat) (f a : Nat) : hpR (nw σ k len sz) f a = if a = hpN σ then none else hpR σ f a := rfl
theorem hpJ_nw (σ : St) (k len sz : Nat) (f a : Nat) : hpJ (nw σ k len sz) f a = if a = hpN σ then 0 else hpJ σ f a := rfl
theorem hpA_nw (σ : St) (k len sz : Nat) (a j : Nat) : hpA (nw σ k len sz) a j = if a = hpN σ then 0 else hpA σ a j := rfl
theorem hpB_nw (σ : St) (k len sz : Nat) (a j : Nat) : hpB (nw σ k len sz) a j = if a = hpN σ then none else hpB σ a j := rfl
theorem hpG_nw (σ : St) (k len sz : Nat) (i : Nat) : hpG (nw σ k len sz) i = hpG σ i := rfl
theorem hsx :
  (∀ (σ : St) (f0 a0 : Nat) (v : Int32), hpN (stI σ f0 a0 v) = hpN σ) ∧
  (∀ (σ : St) (f0 a0 : Nat) (v : Int32), hpC (stI σ f0 a0 v) = hpC σ) ∧
  (∀ (σ : St) (f0 a0 : Nat) (v : Int32), hpS (stI σ f0 a0 v) = hpS σ) ∧
  (∀ (σ : St) (f0 a0 : Nat) (v : Int32) (a : Nat), hpK (stI σ f0 a0 v) a = hpK σ a) ∧
  (∀ (σ : St) (f0 a0 : Nat) (v : Int32) (a : Nat), hpL (stI σ f0 a0 v) a = hpL σ a) ∧
  (∀ (σ : St) (f0 a0 : Nat) (v : Int32) (f a : Nat), hpI (stI σ f0 a0 v) f a = if f = f0 ∧ a = a0 then v else hpI σ f a) ∧
  (∀ (σ : St) (f0 a0 : Nat) (v : Int32) (f a : Nat), hpR (stI σ f0 a0 v) f a = hpR σ f a) ∧
  (∀ (σ : St) (f0 a0 : Nat) (v : Int32) (f a : Nat), hpJ (stI σ f0 a0 v) f a = hpJ σ f a) ∧
  (∀ (σ : St) (f0 a0 : Nat) (v : Int32) (a j : Nat), hpA (stI σ f0 a0 v) a j = hpA σ a j) ∧
  (∀ (σ : St) (f0 a0 : Nat) (v : Int32) (a j : Nat), hpB (stI σ f0 a0 v) a j = hpB σ a j) ∧
  (∀ (σ : St) (f0 a0 : Nat) (v : Int32) (i : Nat), hpG (stI σ f0 a0 v) i = hpG σ i) ∧
  (∀ (σ : St) (f0 a0 : Nat) (v : Option Nat), hpN (stR σ f0 a0 v) = hpN σ) ∧
  (∀ (σ : St) (f0 a0 : Nat) (v : Option Nat), hpC (stR σ f0 a0 v) = hpC σ) ∧
  (∀ (σ : St) (f0 a0 : Nat) (v : Option Nat), hpS (stR σ f0 a0 v) = hpS σ) ∧
  (∀ (σ : St) (f0 a0 : Nat) (v : Option Nat) (a : Nat), hpK (stR σ f0 a0 v) a = hpK σ a) ∧
  (∀ (σ : St) (f0 a0 : Nat) (v : Option Nat) (a : Nat), hpL (stR σ f0 a0 v) a = hpL σ a) ∧
  (∀ (σ : St) (f0 a0 : Nat) (v : Option Nat) (f a : Nat), hpI (stR σ f0 a0 v) f a = hpI σ f a) ∧
  (∀ (σ : St) (f0 a0 : Nat) (v : Option Nat) (f a : Nat), hpR (stR σ f0 a0 v) f a = if f = f0 ∧ a = a0 then v else hpR σ f a) ∧
  (∀ (σ : St) (f0 a0 : Nat) (v : Option Nat) (f a : Nat), hpJ (stR σ f0 a0 v) f a = hpJ σ f a) ∧
  (∀ (σ : St) (f0 a0 : Nat) (v : Option Nat) (a j : Nat), hpA (stR σ f0 a0 v) a j = hpA σ a j) ∧
  (∀ (σ : St) (f0 a0 : Nat) (v : Option Nat) (a j : Nat), hpB (stR σ f0 a0 v) a j = hpB σ a j) ∧
  (∀ (σ : St) (f0 a0 : Nat) (v : Option Nat) (i : Nat), hpG (stR σ f0 a0 v) i = hpG σ i) ∧
  (∀ (σ : St) (f0 a0 : Nat) (v : Int64), hpN (stJ σ f0 a0 v) = hpN σ) ∧
  (∀ (σ : St) (f0 a0 : Nat) (v : Int64), hpC (stJ σ f0 a0 v) = hpC σ) ∧
  (∀ (σ : St) (f0 a0 : Nat) (v : Int64), hpS (stJ σ f0 a0 v) = hpS σ) ∧
  (∀ (σ : St) (f0 a0 : Nat) (v : Int64) (a : Nat), hpK (stJ σ f0 a0 v) a = hpK σ a) ∧
  (∀ (σ : St) (f0 a0 : Nat) (v : Int64) (a : Nat), hpL (stJ σ f0 a0 v) a = hpL σ a) ∧
  (∀ (σ : St) (f0 a0 : Nat) (v : Int64) (f a : Nat), hpI (stJ σ f0 a0 v) f a = hpI σ f a) ∧
  (∀ (σ : St) (f0 a0 : Nat) (v : Int64) (f a : Nat), hpR (stJ σ f0 a0 v) f a = hpR σ f a) ∧
  (∀ (σ : St) (f0 a0 : Nat) (v : Int64) (f a : Nat), hpJ (stJ σ f0 a0 v) f a = if f = f0 ∧ a = a0 then v else hpJ σ f a) ∧
  (∀ (σ : St) (f0 a0 : Nat) (v : Int64) (a j : Nat), hpA (stJ σ f0 a0 v) a j = hpA σ a j) ∧
  (∀ (σ : St) (f0 a0 : Nat) (v : Int64) (a j : Nat), hpB (stJ σ f0 a0 v) a j = hpB σ a j) ∧
  (∀ (σ : St) (f0 a0 : Nat) (v : Int64) (i : Nat), hpG (stJ σ f0 a0 v) i = hpG σ i) ∧
  (∀ (σ : St) (a0 j0 : Nat) (v : Int32), hpN (stA σ a0 j0 v) = hpN σ) ∧
  (∀ (σ : St) (a0 j0 : Nat) (v : Int32), hpC (stA σ a0 j0 v) = hpC σ) ∧
  (∀ (σ : St) (a0 j0 : Nat) (v : Int32), hpS (stA σ a0 j0 v) = hpS σ) ∧
  (∀ (σ : St) (a0 j0 : Nat) (v : Int32) (a : Nat), hpK (stA σ a0 j0 v) a = hpK σ a) ∧
  (∀ (σ : St) (a0 j0 : Nat) (v : Int32) (a : Nat), hpL (stA σ a0 j0 v) a = hpL σ a) ∧
  (∀ (σ : St) (a0 j0 : Nat) (v : Int32) (f a : Nat), hpI (stA σ a0 j0 v) f a = hpI σ f a) ∧
  (∀ (σ : St) (a0 j0 : Nat) (v : Int32) (f a : Nat), hpR (stA σ a0 j0 v) f a = hpR σ f a) ∧
  (∀ (σ : St) (a0 j0 : Nat) (v : Int32) (f a : Nat), hpJ (stA σ a0 j0 v) f a = hpJ σ f a) ∧
  (∀ (σ : St) (a0 j0 : Nat) (v : Int32) (a j : Nat), hpA (stA σ a0 j0 v) a j = if a = a0 ∧ j = j0 then v else hpA σ a j) ∧
  (∀ (σ : St) (a0 j0 : Nat) (v : Int32) (a j : Nat), hpB (stA σ a0 j0 v) a j = hpB σ a j) ∧
  (∀ (σ : St) (a0 j0 : Nat) (v : Int32) (i : Nat), hpG (stA σ a0 j0 v) i = hpG σ i) ∧
  (∀ (σ : St) (a0 j0 : Nat) (v : Option Nat), hpN (stB σ a0 j0 v) = hpN σ) ∧
  (∀ (σ : St) (a0 j0 : Nat) (v : Option Nat), hpC (stB σ a0 j0 v) = hpC σ) ∧
  (∀ (σ : St) (a0 j0 : Nat) (v : Option Nat), hpS (stB σ a0 j0 v) = hpS σ) ∧
  (∀ (σ : St) (a0 j0 : Nat) (v : Option Nat) (a : Nat), hpK (stB σ a0 j0 v) a = hpK σ a) ∧
  (∀ (σ : St) (a0 j0 : Nat) (v : Option Nat) (a : Nat), hpL (stB σ a0 j0 v) a = hpL σ a) ∧
  (∀ (σ : St) (a0 j0 : Nat) (v : Option Nat) (f a : Nat), hpI (stB σ a0 j0 v) f a = hpI σ f a) ∧
  (∀ (σ : St) (a0 j0 : Nat) (v : Option Nat) (f a : Nat), hpR (stB σ a0 j0 v) f a = hpR σ f a) ∧
  (∀ (σ : St) (a0 j0 : Nat) (v : Option Nat) (f a : Nat), hpJ (stB σ a0 j0 v) f a = hpJ σ f a) ∧
  (∀ (σ : St) (a0 j0 : Nat) (v : Option Nat) (a j : Nat), hpA (stB σ a0 j0 v) a j = hpA σ a j) ∧
  (∀ (σ : St) (a0 j0 : Nat) (v : Option Nat) (a j : Nat), hpB (stB σ a0 j0 v) a j = if a = a0 ∧ j = j0 then v else hpB σ a j) ∧
  (∀ (σ : St) (a0 j0 : Nat) (v : Option Nat) (i : Nat), hpG (stB σ a0 j0 v) i = hpG σ i) ∧
  (∀ (σ : St) (k len sz : Nat), hpN (nw σ k len sz) = hpN σ + 1) ∧
  (∀ (σ : St) (k len sz : Nat), hpC (nw σ k len sz) = hpC σ + 1) ∧
  (∀ (σ : St) (k len sz : Nat), hpS (nw σ k len sz) = hpS σ + sz) ∧
  (∀ (σ : St) (k len sz : Nat) (a : Nat), hpK (nw σ k len sz) a = if a = hpN σ then k else hpK σ a) ∧
  (∀ (σ : St) (k len sz : Nat) (a : Nat), hpL (nw σ k len sz) a = if a = hpN σ then len else hpL σ a) ∧
  (∀ (σ : St) (k len sz : Nat) (f a : Nat), hpI (nw σ k len sz) f a = if a = hpN σ then 0 else hpI σ f a) ∧
  (∀ (σ : St) (k len sz : Nat) (f a : Nat), hpR (nw σ k len sz) f a = if a = hpN σ then none else hpR σ f a) ∧
  (∀ (σ : St) (k len sz : Nat) (f a : Nat), hpJ (nw σ k len sz) f a = if a = hpN σ then 0 else hpJ σ f a) ∧
  (∀ (σ : St) (k len sz : Nat) (a j : Nat), hpA (nw σ k len sz) a j = if a = hpN σ then 0 else hpA σ a j) ∧
  (∀ (σ : St) (k len sz : Nat) (a j : Nat), hpB (nw σ k len sz) a j = if a = hpN σ then none else hpB σ a j) ∧
  (∀ (σ : St) (k len sz : Nat) (i : Nat), hpG (nw σ k len sz) i = hpG σ i) :=
  ⟨hpN_stI, hpC_stI, hpS_stI, hpK_stI, hpL_stI, hpI_stI, hpR_stI, hpJ_stI, hpA_stI, hpB_stI, hpG_stI, hpN_stR, hpC_stR, hpS_stR, hpK_stR, hpL_stR, hpI_stR, hpR_stR, hpJ_stR, hpA_stR, hpB_stR, hpG_stR, hpN_stJ, hpC_stJ, hpS_stJ, hpK_stJ, hpL_stJ, hpI_stJ, hpR_stJ, hpJ_stJ, hpA_stJ, hpB_stJ, hpG_stJ, hpN_stA, hpC_stA, hpS_stA, hpK_stA, hpL_stA, hpI_stA, hpR_stA, hpJ_stA, hpA_stA, hpB_stA, hpG_stA, hpN_stB, hpC_stB, hpS_stB, hpK_stB, hpL_stB, hpI_stB, hpR_stB, hpJ_stB, hpA_stB, hpB_stB, hpG_stB, hpN_nw, hpC_nw, hpS_nw, hpK_nw, hpL_nw, hpI_nw, hpR_nw, hpJ_nw, hpA_nw, hpB_nw, hpG_nw⟩

def NX : Nat := 600000
def SX : Nat := 7302250
/-- guards: a reference that isn't null and points to a cell of kind k; an int array (a static one has kind 20); an index within; a reference that is null or points to kind k; a boolean -/
def dn (σ : St) (k : Nat) (x : Option Nat) : Option Nat := x.bind fun a => if hpK σ a = k then some a else none
def dnA (σ : St) (x : Option Nat) : Option Nat := x.bind fun a => if hpK σ a = 13 ∨ hpK σ a = 20 then some a else none
def ix (i : Int32) (n : Nat) : Option Nat := if i < 0 ∨ n ≤ i.toNatClampNeg then none else some i.toNatClampNeg
def dm (σ : St) (k : Nat) (x : Option Nat) : Option (Option Nat) := match x with
  | none => some none
  | some a => if hpK σ a = k then some (some a) else none
def gz (v : Int32) : Option Int32 := if v = 0 ∨ v = 1 then some v else none
def nz (v : Int32) : Option Int32 := if v = 0 then none else some v
def nflT : List Nat := [2, 9, 4, 5, 5, 3, 9, 3, 2, 5, 5, 26]
def nfl (k : Nat) : Nat := nflT.getD k 0
def nwO (σ : St) (k : Nat) : Option St := if hpC σ + 1 ≤ NX ∧ hpS σ + nfl k ≤ SX then some (nw σ k 0 (nfl k)) else none
def nwA (σ : St) (k : Nat) (n : Int32) : Option St := if n < 0 ∨ 1000000 < n.toNatClampNeg ∨ ¬ (hpC σ + 1 ≤ NX ∧ hpS σ + n.toNatClampNeg ≤ SX) then none else some (nw σ k n.toNatClampNeg n.toNatClampNeg)
theorem dn_some {σ : St} {k : Nat} {x : Option Nat} {a : Nat} (h : dn σ k x = some a) : x = some a ∧ hpK σ a = k := by
  cases x with
  | none => simp [dn] at h
  | some b =>
    simp only [dn, Option.bind_some] at h
    split at h
    · cases h; exact ⟨rfl, by assumption⟩
    · cases h
theorem dn_eq {σ : St} {k a : Nat} (h : hpK σ a = k) : dn σ k (some a) = some a := by simp [dn, h]
theorem dnA_some {σ : St} {x : Option Nat} {a : Nat} (h : dnA σ x = some a) : x = some a ∧ (hpK σ a = 13 ∨ hpK σ a = 20) := by
  cases x with
  | none => simp [dnA] at h
  | some b =>
    simp only [dnA, Option.bind_some] at h
    split at h
    · cases h; exact ⟨rfl, by assumption⟩
    · cases h
theorem dnA_eq {σ : St} {a : Nat} (h : hpK σ a = 13) : dnA σ (some a) = some a := by simp [dnA, h]
theorem dnA_eq20 {σ : St} {a : Nat} (h : hpK σ a = 20) : dnA σ (some a) = some a := by simp [dnA, h]
theorem ix_some {i : Int32} {n j : Nat} (h : ix i n = some j) : ¬ (i < 0 ∨ n ≤ i.toNatClampNeg) ∧ j = i.toNatClampNeg := by
  unfold ix at h
  split at h
  · cases h
  · rename_i h1
    cases h
    exact ⟨h1, rfl⟩
theorem ix_nI {n N : Nat} (h : n < N) (hN : N < 2 ^ 31) : ix (nI n) N = some n := by
  unfold ix
  rw [if_neg (nI_in h hN), nI_clamp (by omega)]
theorem gz_some {v w : Int32} (h : gz v = some w) : w = v ∧ (v = 0 ∨ v = 1) := by
  unfold gz at h
  split at h
  · cases h; exact ⟨rfl, by assumption⟩
  · cases h
theorem gz_0 : gz 0 = some 0 := rfl
theorem gz_1 : gz 1 = some 1 := rfl
theorem nz_some {v w : Int32} (h : nz v = some w) : w = v ∧ ¬ v = 0 := by
  unfold nz at h
  split at h
  · cases h
  · cases h; exact ⟨rfl, by assumption⟩
theorem dm_some {σ : St} {k : Nat} {x y : Option Nat} (h : dm σ k x = some y) : y = x ∧ ∀ a, x = some a → hpK σ a = k := by
  cases x with
  | none => cases h; exact ⟨rfl, fun a h => by cases h⟩
  | some b =>
    simp only [dm] at h
    split at h
    · cases h; exact ⟨rfl, fun a h => by cases h; assumption⟩
    · cases h
theorem nwO_some {σ σ1 : St} {k : Nat} (h : nwO σ k = some σ1) : (hpC σ + 1 ≤ NX ∧ hpS σ + nfl k ≤ SX) ∧ σ1 = nw σ k 0 (nfl k) := by
  unfold nwO at h
  split at h
  · cases h; exact ⟨by assumption, rfl⟩
  · cases h
theorem nwA_some {σ σ1 : St} {k : Nat} {n : Int32} (h : nwA σ k n = some σ1) : ¬ n < 0 ∧ n.toNatClampNeg ≤ 1000000 ∧ (hpC σ + 1 ≤ NX ∧ hpS σ + n.toNatClampNeg ≤ SX) ∧ σ1 = nw σ k n.toNatClampNeg n.toNatClampNeg := by
  unfold nwA at h
  split at h
  · cases h
  · rename_i h1
    cases h
    have h2 := not_or.mp h1
    have h3 := not_or.mp h2.2
    exact ⟨h2.1, Nat.not_lt.mp h3.1, Decidable.not_not.mp h3.2, rfl⟩
theorem bind_ok {α β : Type} {o : Option α} {F : α → Option β} {b : β} (h : o.bind F = some b) : ∃ a, o = some a ∧ F a = some b := Option.bind_eq_some_iff.mp h
theorem bind_if_some {α β : Type} {c : Prop} [Decidable c] (x y : α) (F : α → Option β) : (if c then some x else some y).bind F = F (if c then x else y) := by split <;> rfl
/-- FU: fuel for loops -/
def FU : Nat := 1000000

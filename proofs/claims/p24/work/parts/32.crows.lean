theorem dm_eq1 {σ : St} {k a : Nat} (h : hpK σ a = k) : dm σ k (some a) = some (some a) := by simp [dm, h]
theorem zN_div {a b : Nat} (ha : a ≤ 2147483647) (hb : b ≤ 2147483647) : zI (a : Int) / zI b = zI ((a / b : Nat) : Int) := (Int32.ofNat_div (by omega) (by omega)).symm
/-- a row at a: r, and the number that it shows -/
def RW (σ : St) (a : Nat) (r : RT) (v : Nat) : Prop := hpI σ 192 a = zI (rLn r) ∧ hpI σ 193 a = zI (rIx r) ∧ hpI σ 196 a = zI (rCo r) ∧ hpI σ 197 a = zI (rFr r) ∧ hpI σ 198 a = zI (rLe r) ∧ hpI σ 199 a = zI v ∧ hpI σ 200 a = zI (rWi r)
def RoL (σ : St) (t : Nat) (rs : RS) (sh : Nat → Nat) : Prop := hpI σ 36 t = zI rs.1 ∧ rs.1 ≤ 480 ∧ (∀ i, i < rs.1 → ∃ a, hpB σ (t + 1) i = some a ∧ RW σ a (rs.2 i) (sh i)) ∧ ∀ i, rs.1 ≤ i → sh i = 0
/-- what may change while rows are laid -/
def okR (Q : Nat → Prop) (t f a : Nat) : Prop := (f = 36 ∧ a = t) ∨ (192 ≤ f ∧ f < 224 ∧ Q a)
def oB (t d a : Nat) : Prop := a = t + d
theorem RW_FZ {ok : Nat → Nat → Prop} {okB : Nat → Prop} {σ τ : St} {a v : Nat} {r : RT} (g : FZ ok okB σ τ) (ha : a < hpN σ) (h : RW σ a r v) (hk : ∀ f, 192 ≤ f → f < 224 → f ≠ 194 → f ≠ 195 → ¬ ok f a) : RW τ a r v := by
  obtain ⟨-, -, -, -, -, -, -, a8⟩ := g.2.1 a ha
  obtain ⟨b1, b2, b3, b4, b5, b6, b7⟩ := h
  exact ⟨(a8 192 (hk _ (by decide) (by decide) (by decide) (by decide))).trans b1, (a8 193 (hk _ (by decide) (by decide) (by decide) (by decide))).trans b2, (a8 196 (hk _ (by decide) (by decide) (by decide) (by decide))).trans b3, (a8 197 (hk _ (by decide) (by decide) (by decide) (by decide))).trans b4, (a8 198 (hk _ (by decide) (by decide) (by decide) (by decide))).trans b5, (a8 199 (hk _ (by decide) (by decide) (by decide) (by decide))).trans b6, (a8 200 (hk _ (by decide) (by decide) (by decide) (by decide))).trans b7⟩
theorem RoL_FZ {Q : Nat → Prop} {C S : Nat} {ok : Nat → Nat → Prop} {okB : Nat → Prop} {σ τ : St} {t : Nat} {rs : RS} {sh : Nat → Nat} (h : LI Q C S σ t) (hr : RoL σ t rs sh) (g : FZ ok okB σ τ) (h1 : ¬ ok 36 t) (h2 : ∀ a f, 192 ≤ f → f < 224 → f ≠ 194 → f ≠ 195 → ¬ ok f a) : RoL τ t rs sh := by
  have hN := h.2.1.1
  have h480 := hr.2.1
  refine ⟨((g.2.1 t (by omega)).2.2.2.2.2.2.2 36 h1).trans hr.1, hr.2.1, fun i hi => ?_, hr.2.2.2⟩
  obtain ⟨a, b1, b2⟩ := hr.2.2.1 i hi
  have ha := (h.2.2.2.1.2.2.2.1 i a (by omega) b1).2.1
  exact ⟨a, (g.2.1 (t + 1) (by omega)).2.2.2.2.2.1 i a b1, RW_FZ g ha b2 (h2 a)⟩
/-- the new row's fields -/
def rowZ (τ : St) (t a : Nat) (ln pt co fr : Int32) : St := stI (stI (stI (stI (stI (stI (stI (stI τ 36 t (hpI τ 36 t + 1)) 192 a ln) 193 a pt) 196 a co) 197 a fr) 198 a 0) 199 a 0) 200 a 0
theorem rowZ_ok {Q : Nat → Prop} {C S : Nat} {τ : St} {t a ln pt co fr : Nat} {rs : RS} {sh : Nat → Nat} (h : LI Q C S τ t) (hr : RoL τ t rs sh) (hn : rs.1 < 480) (hb : hpB τ (t + 1) rs.1 = some a) : LI Q C S (rowZ τ t a (zI ln) (zI pt) (zI co) (zI fr)) t ∧ RoL (rowZ τ t a (zI ln) (zI pt) (zI co) (zI fr)) t (addR rs (ln, pt, co, fr, 0, 0)) sh ∧ FZ (okR Q t) (oB t 1) τ (rowZ τ t a (zI ln) (zI pt) (zI co) (zI fr)) := by
  have hA := h.2.2.2.1
  have hQ := (hA.2.2.2.1 _ _ hn hb).2.2
  have hne : ∀ i b, i < rs.1 → hpB τ (t + 1) i = some b → b ≠ a := fun i b hi x y => by
    subst y; have := hA.2.2.2.2 i rs.1 b (by omega) hn x hb; omega
  refine ⟨LI_stI (LI_stI (LI_stI (LI_stI (LI_stI (LI_stI (LI_stI (LI_stI h _ _ _) _ _ _) _ _ _) _ _ _) _ _ _) _ _ _) _ _ _) _ _ _, ⟨?_, by show rs.1 + 1 ≤ 480; omega, fun i hi => ?_, fun i hi => hr.2.2.2 i (by have : rs.1 + 1 ≤ i := hi; omega)⟩, ?_⟩
  · have e : hpI (rowZ τ t a (zI ln) (zI pt) (zI co) (zI fr)) 36 t = hpI τ 36 t + 1 := by
      simp only [rowZ, hIw, Nat.reduceEqDiff, false_and, true_and, if_true, if_false]
    rw [e, hr.1, zN_add1]; rfl
  · by_cases q : i = rs.1
    · subst q
      refine ⟨a, hb, ?_⟩
      have e : (addR rs (ln, pt, co, fr, 0, 0)).2 rs.1 = (ln, pt, co, fr, 0, 0) := if_pos rfl
      rw [e, hr.2.2.2 rs.1 (Nat.le_refl _)]
      refine ⟨?_, ?_, ?_, ?_, ?_, ?_, ?_⟩ <;> simp only [rowZ, hIw, Nat.reduceEqDiff, false_and, true_and, if_true, if_false] <;> rfl
    · obtain ⟨b, b1, b2⟩ := hr.2.2.1 i (by have : i < rs.1 + 1 := hi; omega)
      have nb := hne i b (by have : i < rs.1 + 1 := hi; omega) b1
      refine ⟨b, b1, ?_⟩
      have e : (addR rs (ln, pt, co, fr, 0, 0)).2 i = rs.2 i := if_neg q
      rw [e]
      obtain ⟨c1, c2, c3, c4, c5, c6, c7⟩ := b2
      refine ⟨?_, ?_, ?_, ?_, ?_, ?_, ?_⟩ <;> simp only [rowZ, hIw, Nat.reduceEqDiff, nb, and_false, false_and, if_false] <;> assumption
  · exact FZ_stI (FZ_stI (FZ_stI (FZ_stI (FZ_stI (FZ_stI (FZ_stI (FZ_stI (FZ_refl _ _ _) 36 t _ (Or.inl ⟨rfl, rfl⟩)) 192 a _ (Or.inr ⟨by decide, by decide, hQ⟩)) 193 a _ (Or.inr ⟨by decide, by decide, hQ⟩)) 196 a _ (Or.inr ⟨by decide, by decide, hQ⟩)) 197 a _ (Or.inr ⟨by decide, by decide, hQ⟩)) 198 a _ (Or.inr ⟨by decide, by decide, hQ⟩)) 199 a _ (Or.inr ⟨by decide, by decide, hQ⟩)) 200 a _ (Or.inr ⟨by decide, by decide, hQ⟩)
/-- an object is made, or the one that stands there is taken -/
theorem q_getr {Q : Nat → Prop} {C S : Nat} {σ : St} {t i : Nat} (h : LI Q C S σ t) (hc : hpI σ 36 t = zI i) (hi : i < 480) : ∃ a τ, (if (hpB σ (t + 1) i) = none then
        (nwO σ 6).bind fun σ18 =>
        (dn σ18 6 (some (hpN σ))).bind fun a20 =>
        (f_X6_init σ18 a20).bind fun q22 =>
        (dn σ18 1 (some t)).bind fun a24 =>
        (dn σ18 18 (hpR σ18 32 a24)).bind fun a26 =>
        (ix (hpI σ18 36 a24) (hpL σ18 a26)).bind fun j28 =>
        (dm σ18 6 (some (hpN σ))).bind fun w30 =>
        some ((some (hpN σ)), (stB σ18 a26 j28 (some (hpN σ))))
      else
        some ((hpB σ (t + 1) i), σ)) = some (some a, τ) ∧ LI Q C S τ t ∧ hpB τ (t + 1) i = some a ∧ FZ (fun _ _ => False) (oB t 1) σ τ := by
  obtain ⟨a1, a2, a3, a4, a5⟩ := h.2.2.2.1
  have n1 := h.2.1.1
  cases hb : hpB σ (t + 1) i with
  | some a => exact ⟨a, σ, by rw [if_neg (by simp)], h, hb, FZ_refl _ _ _⟩
  | none =>
    obtain ⟨m1, m2⟩ := LI_mkr h hi hb
    have k1 : hpK (nw σ 6 0 (nfl 6)) (hpN σ) = 6 := if_pos rfl
    have k2 : hpK (nw σ 6 0 (nfl 6)) t = 1 := (if_neg (show ¬ t = hpN σ by omega)).trans h.2.2.1
    have r1 : hpR (nw σ 6 0 (nfl 6)) 32 t = some (t + 1) := (if_neg (show ¬ t = hpN σ by omega)).trans a1
    have k3 : hpK (nw σ 6 0 (nfl 6)) (t + 1) = 18 := (if_neg (show ¬ t + 1 = hpN σ by omega)).trans a2
    have c1 : hpI (nw σ 6 0 (nfl 6)) 36 t = zI i := (if_neg (show ¬ t = hpN σ by omega)).trans hc
    have l1 : hpL (nw σ 6 0 (nfl 6)) (t + 1) = 480 := (if_neg (show ¬ t + 1 = hpN σ by omega)).trans a3
    refine ⟨hpN σ, mkO σ t 1 i 6, ?_, m2, by rw [mkO_d n1 (by decide), if_pos rfl], FZ_mk (FZ_refl _ _ _) 6 n1 (by decide) hb rfl⟩
    rw [if_pos rfl, m1, bnd, dn_eq k1, bnd, f_X6_init, bnd, dn_eq k2, bnd, r1, dn_eq k3, bnd, c1, l1, ix_l _ _ hi (by omega), bnd, dm_eq1 k1, bnd]; rfl
/-- an object is made, or the one that stands there is taken -/
theorem q_gets {Q : Nat → Prop} {C S : Nat} {σ : St} {t i : Nat} (h : LI Q C S σ t) (hc : hpI σ 39 t = zI i) (hi : i < 24) : ∃ a τ, (if (hpB σ (t + 2) i) = none then
        (nwO σ 3).bind fun σ18 =>
        (dn σ18 3 (some (hpN σ))).bind fun a20 =>
        (f_X3_init σ18 a20).bind fun q22 =>
        (dn σ18 1 (some t)).bind fun a24 =>
        (dn σ18 15 (hpR σ18 33 a24)).bind fun a26 =>
        (ix (hpI σ18 39 a24) (hpL σ18 a26)).bind fun j28 =>
        (dm σ18 3 (some (hpN σ))).bind fun w30 =>
        some ((some (hpN σ)), (stB σ18 a26 j28 (some (hpN σ))))
      else
        some ((hpB σ (t + 2) i), σ)) = some (some a, τ) ∧ LI Q C S τ t ∧ hpB τ (t + 2) i = some a ∧ FZ (fun _ _ => False) (oB t 2) σ τ := by
  obtain ⟨a1, a2, a3, a4, a5⟩ := h.2.2.2.2.1
  have n1 := h.2.1.1
  cases hb : hpB σ (t + 2) i with
  | some a => exact ⟨a, σ, by rw [if_neg (by simp)], h, hb, FZ_refl _ _ _⟩
  | none =>
    obtain ⟨m1, m2⟩ := LI_mks h hi hb
    have k1 : hpK (nw σ 3 0 (nfl 3)) (hpN σ) = 3 := if_pos rfl
    have k2 : hpK (nw σ 3 0 (nfl 3)) t = 1 := (if_neg (show ¬ t = hpN σ by omega)).trans h.2.2.1
    have r1 : hpR (nw σ 3 0 (nfl 3)) 33 t = some (t + 2) := (if_neg (show ¬ t = hpN σ by omega)).trans a1
    have k3 : hpK (nw σ 3 0 (nfl 3)) (t + 2) = 15 := (if_neg (show ¬ t + 2 = hpN σ by omega)).trans a2
    have c1 : hpI (nw σ 3 0 (nfl 3)) 39 t = zI i := (if_neg (show ¬ t = hpN σ by omega)).trans hc
    have l1 : hpL (nw σ 3 0 (nfl 3)) (t + 2) = 24 := (if_neg (show ¬ t + 2 = hpN σ by omega)).trans a3
    refine ⟨hpN σ, mkO σ t 2 i 3, ?_, m2, by rw [mkO_d n1 (by decide), if_pos rfl], FZ_mk (FZ_refl _ _ _) 3 n1 (by decide) hb rfl⟩
    rw [if_pos rfl, m1, bnd, dn_eq k1, bnd, f_X3_init, bnd, dn_eq k2, bnd, r1, dn_eq k3, bnd, c1, l1, ix_l _ _ hi (by omega), bnd, dm_eq1 k1, bnd]; rfl
/-- an object is made, or the one that stands there is taken -/
theorem q_getz {Q : Nat → Prop} {C S : Nat} {σ : St} {t i : Nat} (h : LI Q C S σ t) (hc : hpI σ 37 t = zI i) (hi : i < 24) : ∃ a τ, (if (hpB σ (t + 3) i) = none then
        (nwO σ 7).bind fun σ18 =>
        (dn σ18 7 (some (hpN σ))).bind fun a20 =>
        (f_X7_init σ18 a20).bind fun q22 =>
        (dn σ18 1 (some t)).bind fun a24 =>
        (dn σ18 19 (hpR σ18 34 a24)).bind fun a26 =>
        (ix (hpI σ18 37 a24) (hpL σ18 a26)).bind fun j28 =>
        (dm σ18 7 (some (hpN σ))).bind fun w30 =>
        some ((some (hpN σ)), (stB σ18 a26 j28 (some (hpN σ))))
      else
        some ((hpB σ (t + 3) i), σ)) = some (some a, τ) ∧ LI Q C S τ t ∧ hpB τ (t + 3) i = some a ∧ FZ (fun _ _ => False) (oB t 3) σ τ := by
  obtain ⟨a1, a2, a3, a4, a5⟩ := h.2.2.2.2.2.1
  have n1 := h.2.1.1
  cases hb : hpB σ (t + 3) i with
  | some a => exact ⟨a, σ, by rw [if_neg (by simp)], h, hb, FZ_refl _ _ _⟩
  | none =>
    obtain ⟨m1, m2⟩ := LI_mkz h hi hb
    have k1 : hpK (nw σ 7 0 (nfl 7)) (hpN σ) = 7 := if_pos rfl
    have k2 : hpK (nw σ 7 0 (nfl 7)) t = 1 := (if_neg (show ¬ t = hpN σ by omega)).trans h.2.2.1
    have r1 : hpR (nw σ 7 0 (nfl 7)) 34 t = some (t + 3) := (if_neg (show ¬ t = hpN σ by omega)).trans a1
    have k3 : hpK (nw σ 7 0 (nfl 7)) (t + 3) = 19 := (if_neg (show ¬ t + 3 = hpN σ by omega)).trans a2
    have c1 : hpI (nw σ 7 0 (nfl 7)) 37 t = zI i := (if_neg (show ¬ t = hpN σ by omega)).trans hc
    have l1 : hpL (nw σ 7 0 (nfl 7)) (t + 3) = 24 := (if_neg (show ¬ t + 3 = hpN σ by omega)).trans a3
    refine ⟨hpN σ, mkO σ t 3 i 7, ?_, m2, by rw [mkO_d n1 (by decide), if_pos rfl], FZ_mk (FZ_refl _ _ _) 7 n1 (by decide) hb rfl⟩
    rw [if_pos rfl, m1, bnd, dn_eq k1, bnd, f_X7_init, bnd, dn_eq k2, bnd, r1, dn_eq k3, bnd, c1, l1, ix_l _ _ hi (by omega), bnd, dm_eq1 k1, bnd]; rfl
/-- an object is made, or the one that stands there is taken -/
theorem q_getp {Q : Nat → Prop} {C S : Nat} {σ : St} {t i : Nat} (h : LI Q C S σ t) (hc : hpI σ 38 t = zI i) (hi : i < 480) : ∃ a τ, (if (hpB σ (t + 4) i) = none then
        (nwO σ 4).bind fun σ18 =>
        (dn σ18 4 (some (hpN σ))).bind fun a20 =>
        (f_X4_init σ18 a20).bind fun q22 =>
        (dn σ18 1 (some t)).bind fun a24 =>
        (dn σ18 16 (hpR σ18 35 a24)).bind fun a26 =>
        (ix (hpI σ18 38 a24) (hpL σ18 a26)).bind fun j28 =>
        (dm σ18 4 (some (hpN σ))).bind fun w30 =>
        some ((some (hpN σ)), (stB σ18 a26 j28 (some (hpN σ))))
      else
        some ((hpB σ (t + 4) i), σ)) = some (some a, τ) ∧ LI Q C S τ t ∧ hpB τ (t + 4) i = some a ∧ FZ (fun _ _ => False) (oB t 4) σ τ := by
  obtain ⟨a1, a2, a3, a4, a5⟩ := h.2.2.2.2.2.2
  have n1 := h.2.1.1
  cases hb : hpB σ (t + 4) i with
  | some a => exact ⟨a, σ, by rw [if_neg (by simp)], h, hb, FZ_refl _ _ _⟩
  | none =>
    obtain ⟨m1, m2⟩ := LI_mkp h hi hb
    have k1 : hpK (nw σ 4 0 (nfl 4)) (hpN σ) = 4 := if_pos rfl
    have k2 : hpK (nw σ 4 0 (nfl 4)) t = 1 := (if_neg (show ¬ t = hpN σ by omega)).trans h.2.2.1
    have r1 : hpR (nw σ 4 0 (nfl 4)) 35 t = some (t + 4) := (if_neg (show ¬ t = hpN σ by omega)).trans a1
    have k3 : hpK (nw σ 4 0 (nfl 4)) (t + 4) = 16 := (if_neg (show ¬ t + 4 = hpN σ by omega)).trans a2
    have c1 : hpI (nw σ 4 0 (nfl 4)) 38 t = zI i := (if_neg (show ¬ t = hpN σ by omega)).trans hc
    have l1 : hpL (nw σ 4 0 (nfl 4)) (t + 4) = 480 := (if_neg (show ¬ t + 4 = hpN σ by omega)).trans a3
    refine ⟨hpN σ, mkO σ t 4 i 4, ?_, m2, by rw [mkO_d n1 (by decide), if_pos rfl], FZ_mk (FZ_refl _ _ _) 4 n1 (by decide) hb rfl⟩
    rw [if_pos rfl, m1, bnd, dn_eq k1, bnd, f_X4_init, bnd, dn_eq k2, bnd, r1, dn_eq k3, bnd, c1, l1, ix_l _ _ hi (by omega), bnd, dm_eq1 k1, bnd]; rfl
theorem c_addRow {Q : Nat → Prop} {C S : Nat} {σ : St} {t ln co fr : Nat} {rs : RS} {sh : Nat → Nat} (h : LI Q C S σ t) (hr : RoL σ t rs sh) (hn : rs.1 < 480) (hl : 0 < rs.1 → rLn (lastR rs) ≤ 100) (hln : ln ≤ 100) :
    ∃ a τ, f_X1_addRow σ t (zI ln) (zI co) (zI fr) = some (some a, τ) ∧ hpB τ (t + 1) rs.1 = some a ∧ LI Q C S τ t ∧ RoL τ t (addR rs (ln, (if 0 < rs.1 ∧ rLn (lastR rs) = ln then rIx (lastR rs) + 1 else 0), co, fr, 0, 0)) sh ∧ FZ (okR Q t) (oB t 1) σ τ := by
  obtain ⟨a1, a2, a3, a4, a5⟩ := h.2.2.2.1
  have e1 : hpI σ 36 t - 1 = zI ((rs.1 : Int) - 1) := by rw [hr.1, show (1 : Int32) = zI 1 from rfl, zI_sub]
  generalize hpt : (if 0 < rs.1 ∧ rLn (lastR rs) = ln then rIx (lastR rs) + 1 else 0) = pt
  have e2 : ((f_X1_rowAt σ t (hpI σ 36 t - 1)).bind fun q1 => (if q1 = none then some (0 : Int32) else (dn σ 6 q1).bind fun a5 => if ¬ (hpI σ 192 a5) = zI ln then some 0 else some ((hpI σ 193 a5) + 1))) = some (zI pt) := by
    rw [e1]
    by_cases q : 0 < rs.1
    · obtain ⟨b, b1, b2⟩ := hr.2.2.1 (rs.1 - 1) (by omega)
      have bk := (a4 _ _ (by omega) b1).1
      rw [show (rs.1 : Int) - 1 = ((rs.1 - 1 : Nat) : Int) by omega, c_rowAtN h hr.1 hr.2.1 (by omega), b1, bnd, if_neg (by simp), dn_eq bk, bnd, b2.1, b2.2.1, ← hpt]
      have hl' := hl q
      by_cases z : rLn (lastR rs) = ln
      · have e4 : rLn (rs.2 (rs.1 - 1)) = ln := z
        rw [if_neg (fun x => x (by rw [e4])), if_pos ⟨q, z⟩, zN_add1]; rfl
      · have e4 : ¬ zI ((rLn (rs.2 (rs.1 - 1)) : Nat) : Int) = zI ln := fun x => z ((zN_eq (by show rLn (lastR rs) ≤ _; omega) (by omega)).mp x)
        rw [if_pos e4, if_neg (fun x => z x.2)]; rfl
    · rw [c_rowAt0 h hr.1 hr.2.1 _ (by omega) (by omega) (by omega), bnd, if_pos rfl, ← hpt, if_neg (fun x => q x.1)]; rfl
  obtain ⟨a, τ, g1, g2, g3, g4⟩ := q_getr h hr.1 hn
  have hr2 : RoL τ t rs sh := RoL_FZ h hr g4 (fun x => x) (fun _ _ _ _ _ _ x => x)
  obtain ⟨z1, z2, z3⟩ := rowZ_ok (ln := ln) (pt := pt) (co := co) (fr := fr) g2 hr2 hn g3
  have bk := (g2.2.2.2.1.2.2.2.1 _ _ hn g3).1
  refine ⟨a, rowZ τ t a (zI ln) (zI pt) (zI co) (zI fr), ?_, g3, z1, z2, FZ_trans (FZ_mono g4 (fun _ _ x => x.elim) (fun _ x => x)) z3⟩
  have e5 : f_X1_addRow σ t (zI ln) (zI co) (zI fr) = ((f_X1_rowAt σ t (hpI σ 36 t - 1)).bind fun q1 => (if q1 = none then some (0 : Int32) else (dn σ 6 q1).bind fun a5 => if ¬ (hpI σ 192 a5) = zI ln then some 0 else some ((hpI σ 193 a5) + 1))).bind _ := (Option.bind_assoc _ _ _).symm
  have k6 : hpK (stI τ 36 t ((hpI τ 36 t) + 1)) a = 6 := bk
  rw [e5, e2, bnd, hr.1, if_neg (zN_lt0 _ (by omega)), a1, dn_eq a2, bnd, a3, nI_z, if_pos ((zN_lt (by omega) (by omega)).mpr hn), ix_l _ _ hn (by omega), bnd, g1, bnd, dn_eq g2.2.2.1, bnd, dn_eq k6, bnd, sb_inl]
  rfl


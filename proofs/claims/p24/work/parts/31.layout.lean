theorem zlt {a b : Int} (h1 : -2147483648 ≤ a) (h2 : a ≤ 2147483647) (h3 : -2147483648 ≤ b) (h4 : b ≤ 2147483647) : (zI a < zI b) ↔ (a < b) := by rw [zI_lt h1 h2 h3 h4]
theorem zle {a b : Int} (h1 : -2147483648 ≤ a) (h2 : a ≤ 2147483647) (h3 : -2147483648 ≤ b) (h4 : b ≤ 2147483647) : (zI a ≤ zI b) ↔ (a ≤ b) := by rw [zI_le h1 h2 h3 h4]
theorem zeq {a b : Int} (h1 : -2147483648 ≤ a) (h2 : a ≤ 2147483647) (h3 : -2147483648 ≤ b) (h4 : b ≤ 2147483647) : (zI a = zI b) ↔ (a = b) := by rw [zI_eq h1 h2 h3 h4]
/-- how many of the first n are none -/
def cnN (g : Nat → Option Nat) : Nat → Nat
  | 0 => 0
  | n + 1 => cnN g n + (if g n = none then 1 else 0)
theorem cnN_c {g h : Nat → Option Nat} : ∀ n, (∀ i, i < n → h i = g i) → cnN h n = cnN g n
  | 0, _ => rfl
  | n + 1, e => by rw [cnN, cnN, cnN_c n (fun i hi => e i (by omega)), e n (by omega)]
theorem cnN_set {g h : Nat → Option Nat} {j a : Nat} (hj : g j = none) (e : ∀ i, h i = if i = j then some a else g i) : ∀ n, j < n → cnN h n + 1 = cnN g n := by
  intro n
  induction n with
  | zero => intro x; omega
  | succ n ih =>
    intro x
    rw [cnN, cnN, e n]
    by_cases q : n = j
    · subst q
      rw [cnN_c (g := g) n (fun i hi => by rw [e i, if_neg (by omega)]), if_pos rfl, hj, if_neg (by simp), if_pos rfl]
    · have := ih (by omega)
      rw [if_neg q]; omega
/-- a new object of class c, put into place i of the array t + d -/
def mkO (σ : St) (t d i c : Nat) : St := stB (nw σ c 0 (nfl c)) (t + d) i (some (hpN σ))
theorem mkO_B (σ : St) (t d i c a j : Nat) : hpB (mkO σ t d i c) a j = if a = t + d ∧ j = i then some (hpN σ) else if a = hpN σ then none else hpB σ a j := rfl
/-- field f of t is the array t + d (kind k) of n objects of class c, all in Q -/
def LA (Q : Nat → Prop) (σ : St) (t f d k n c : Nat) : Prop := hpR σ f t = some (t + d) ∧ hpK σ (t + d) = k ∧ hpL σ (t + d) = n ∧ (∀ i a, i < n → hpB σ (t + d) i = some a → hpK σ a = c ∧ a < hpN σ ∧ Q a) ∧ ∀ i j a, i < n → j < n → hpB σ (t + d) i = some a → hpB σ (t + d) j = some a → i = j
theorem mkO_d {σ : St} {t d i c : Nat} (ht : t + 5 ≤ hpN σ) (hd : d < 5) (j : Nat) : hpB (mkO σ t d i c) (t + d) j = if j = i then some (hpN σ) else hpB σ (t + d) j := by
  rw [mkO_B]
  by_cases q : j = i
  · rw [if_pos ⟨rfl, q⟩, if_pos q]
  · rw [if_neg (fun x => q x.2), if_neg (by omega), if_neg q]
theorem mkO_o {σ : St} {t d i c a : Nat} (ha : a < hpN σ) (hd : a ≠ t + d) (j : Nat) : hpB (mkO σ t d i c) a j = hpB σ a j := by
  rw [mkO_B, if_neg (fun x => hd x.1), if_neg (by omega)]
theorem LA_same {Q : Nat → Prop} {σ : St} {t f d k n c i : Nat} (h : LA Q σ t f d k n c) (ht : t + 5 ≤ hpN σ) (hd : d < 5) (hn : hpB σ (t + d) i = none) (hQ : Q (hpN σ)) : LA Q (mkO σ t d i c) t f d k n c := by
  obtain ⟨h1, h2, h3, h4, h5⟩ := h
  have e := mkO_d (i := i) (c := c) ht hd
  refine ⟨?_, ?_, ?_, fun j a hj ha => ?_, fun j1 j2 a g1 g2 e1 e2 => ?_⟩
  · show (if t = hpN σ then none else hpR σ f t) = _; rw [if_neg (by omega)]; exact h1
  · show (if t + d = hpN σ then c else hpK σ (t + d)) = k; rw [if_neg (by omega)]; exact h2
  · show (if t + d = hpN σ then 0 else hpL σ (t + d)) = n; rw [if_neg (by omega)]; exact h3
  · rw [e] at ha
    split at ha
    · cases ha; exact ⟨if_pos rfl, Nat.lt_succ_self _, hQ⟩
    · obtain ⟨b1, b2, b3⟩ := h4 j a hj ha
      exact ⟨(if_neg (show ¬ a = hpN σ by omega)).trans b1, Nat.lt_succ_of_lt b2, b3⟩
  · rw [e] at e1 e2
    split at e1
    · split at e2
      · omega
      · cases e1; have := (h4 j2 _ g2 e2).2.1; omega
    · split at e2
      · cases e2; have := (h4 j1 _ g1 e1).2.1; omega
      · exact h5 j1 j2 a g1 g2 e1 e2
theorem LA_oth {Q : Nat → Prop} {σ : St} {t f d k n c d' i c' : Nat} (h : LA Q σ t f d k n c) (ht : t + 5 ≤ hpN σ) (hd : d < 5) (hne : d ≠ d') : LA Q (mkO σ t d' i c') t f d k n c := by
  obtain ⟨h1, h2, h3, h4, h5⟩ := h
  have e : ∀ j, hpB (mkO σ t d' i c') (t + d) j = hpB σ (t + d) j := fun j => mkO_o (by omega) (by omega) j
  refine ⟨?_, ?_, ?_, fun j a hj ha => ?_, fun j1 j2 a g1 g2 e1 e2 => ?_⟩
  · show (if t = hpN σ then none else hpR σ f t) = _; rw [if_neg (by omega)]; exact h1
  · show (if t + d = hpN σ then c' else hpK σ (t + d)) = k; rw [if_neg (by omega)]; exact h2
  · show (if t + d = hpN σ then 0 else hpL σ (t + d)) = n; rw [if_neg (by omega)]; exact h3
  · rw [e] at ha
    obtain ⟨b1, b2, b3⟩ := h4 j a hj ha
    exact ⟨(if_neg (show ¬ a = hpN σ by omega)).trans b1, Nat.lt_succ_of_lt b2, b3⟩
  · rw [e] at e1 e2; exact h5 j1 j2 a g1 g2 e1 e2
/-- what a layout may still make: objects, slots -/
def pC (σ : St) (t : Nat) : Nat := cnN (hpB σ (t + 1)) 480 + cnN (hpB σ (t + 2)) 24 + cnN (hpB σ (t + 3)) 24 + cnN (hpB σ (t + 4)) 480
def pS (σ : St) (t : Nat) : Nat := 9 * cnN (hpB σ (t + 1)) 480 + 5 * cnN (hpB σ (t + 2)) 24 + 3 * cnN (hpB σ (t + 3)) 24 + 5 * cnN (hpB σ (t + 4)) 480
/-- a layout at t: Q holds of all that is its own or not yet made; C objects and S slots, those still to be made among them -/
def LI (Q : Nat → Prop) (C S : Nat) (σ : St) (t : Nat) : Prop := (C ≤ NX ∧ S ≤ SX ∧ hpC σ + pC σ t = C ∧ hpS σ + pS σ t = S) ∧ (t + 5 ≤ hpN σ ∧ ∀ a, hpN σ ≤ a → Q a) ∧ hpK σ t = 1 ∧ LA Q σ t 32 1 18 480 6 ∧ LA Q σ t 33 2 15 24 3 ∧ LA Q σ t 34 3 19 24 7 ∧ LA Q σ t 35 4 16 480 4
theorem cn_mk {σ : St} {t d i c n : Nat} (ht : t + 5 ≤ hpN σ) (hd : d < 5) (hn : hpB σ (t + d) i = none) (hi : i < n) : cnN (hpB (mkO σ t d i c) (t + d)) n + 1 = cnN (hpB σ (t + d)) n := cnN_set hn (mkO_d ht hd) n hi
theorem cn_ot {σ : St} {t d d' i c n : Nat} (ht : t + 5 ≤ hpN σ) (hd : d < 5) (hne : d ≠ d') : cnN (hpB (mkO σ t d' i c) (t + d)) n = cnN (hpB σ (t + d)) n := cnN_c n (fun j _ => mkO_o (by omega) (by omega) j)
theorem LI_mkr {Q : Nat → Prop} {C S : Nat} {σ : St} {t i : Nat} (h : LI Q C S σ t) (hi : i < 480) (hn : hpB σ (t + 1) i = none) : nwO σ 6 = some (nw σ 6 0 (nfl 6)) ∧ LI Q C S (mkO σ t 1 i 6) t := by
  obtain ⟨⟨r1, r2, r3, r4⟩, ⟨n1, n2⟩, k, a1, a2, a3, a4⟩ := h
  have hQ := n2 (hpN σ) (Nat.le_refl _)
  have c1 := cn_mk (c := 6) n1 (by decide) hn hi
  have c2 := fun n => cn_ot (d := 2) (d' := 1) (i := i) (c := 6) (n := n) n1 (by decide) (by decide)
  have c3 := fun n => cn_ot (d := 3) (d' := 1) (i := i) (c := 6) (n := n) n1 (by decide) (by decide)
  have c4 := fun n => cn_ot (d := 4) (d' := 1) (i := i) (c := 6) (n := n) n1 (by decide) (by decide)
  have e1 : hpC (mkO σ t 1 i 6) = hpC σ + 1 := rfl
  have e2 : hpS (mkO σ t 1 i 6) = hpS σ + 9 := rfl
  have e3 : nfl 6 = 9 := rfl
  have pc : pC (mkO σ t 1 i 6) t + 1 = pC σ t := by unfold pC; rw [c2, c3, c4]; omega
  have ps : pS (mkO σ t 1 i 6) t + 9 = pS σ t := by unfold pS; rw [c2, c3, c4]; omega
  refine ⟨by rw [nwO, if_pos ⟨by omega, by omega⟩], ⟨r1, r2, by omega, by omega⟩, ⟨Nat.le_succ_of_le n1, fun a ha => n2 a (Nat.le_of_succ_le ha)⟩, (if_neg (show ¬ t = hpN σ by omega)).trans k, LA_same a1 n1 (by decide) hn hQ, LA_oth a2 n1 (by decide) (by decide), LA_oth a3 n1 (by decide) (by decide), LA_oth a4 n1 (by decide) (by decide)⟩
theorem LI_mks {Q : Nat → Prop} {C S : Nat} {σ : St} {t i : Nat} (h : LI Q C S σ t) (hi : i < 24) (hn : hpB σ (t + 2) i = none) : nwO σ 3 = some (nw σ 3 0 (nfl 3)) ∧ LI Q C S (mkO σ t 2 i 3) t := by
  obtain ⟨⟨r1, r2, r3, r4⟩, ⟨n1, n2⟩, k, a1, a2, a3, a4⟩ := h
  have hQ := n2 (hpN σ) (Nat.le_refl _)
  have c2 := cn_mk (c := 3) n1 (by decide) hn hi
  have c1 := fun n => cn_ot (d := 1) (d' := 2) (i := i) (c := 3) (n := n) n1 (by decide) (by decide)
  have c3 := fun n => cn_ot (d := 3) (d' := 2) (i := i) (c := 3) (n := n) n1 (by decide) (by decide)
  have c4 := fun n => cn_ot (d := 4) (d' := 2) (i := i) (c := 3) (n := n) n1 (by decide) (by decide)
  have e1 : hpC (mkO σ t 2 i 3) = hpC σ + 1 := rfl
  have e2 : hpS (mkO σ t 2 i 3) = hpS σ + 5 := rfl
  have e3 : nfl 3 = 5 := rfl
  have pc : pC (mkO σ t 2 i 3) t + 1 = pC σ t := by unfold pC; rw [c1, c3, c4]; omega
  have ps : pS (mkO σ t 2 i 3) t + 5 = pS σ t := by unfold pS; rw [c1, c3, c4]; omega
  refine ⟨by rw [nwO, if_pos ⟨by omega, by omega⟩], ⟨r1, r2, by omega, by omega⟩, ⟨Nat.le_succ_of_le n1, fun a ha => n2 a (Nat.le_of_succ_le ha)⟩, (if_neg (show ¬ t = hpN σ by omega)).trans k, LA_oth a1 n1 (by decide) (by decide), LA_same a2 n1 (by decide) hn hQ, LA_oth a3 n1 (by decide) (by decide), LA_oth a4 n1 (by decide) (by decide)⟩
theorem LI_mkz {Q : Nat → Prop} {C S : Nat} {σ : St} {t i : Nat} (h : LI Q C S σ t) (hi : i < 24) (hn : hpB σ (t + 3) i = none) : nwO σ 7 = some (nw σ 7 0 (nfl 7)) ∧ LI Q C S (mkO σ t 3 i 7) t := by
  obtain ⟨⟨r1, r2, r3, r4⟩, ⟨n1, n2⟩, k, a1, a2, a3, a4⟩ := h
  have hQ := n2 (hpN σ) (Nat.le_refl _)
  have c3 := cn_mk (c := 7) n1 (by decide) hn hi
  have c1 := fun n => cn_ot (d := 1) (d' := 3) (i := i) (c := 7) (n := n) n1 (by decide) (by decide)
  have c2 := fun n => cn_ot (d := 2) (d' := 3) (i := i) (c := 7) (n := n) n1 (by decide) (by decide)
  have c4 := fun n => cn_ot (d := 4) (d' := 3) (i := i) (c := 7) (n := n) n1 (by decide) (by decide)
  have e1 : hpC (mkO σ t 3 i 7) = hpC σ + 1 := rfl
  have e2 : hpS (mkO σ t 3 i 7) = hpS σ + 3 := rfl
  have e3 : nfl 7 = 3 := rfl
  have pc : pC (mkO σ t 3 i 7) t + 1 = pC σ t := by unfold pC; rw [c1, c2, c4]; omega
  have ps : pS (mkO σ t 3 i 7) t + 3 = pS σ t := by unfold pS; rw [c1, c2, c4]; omega
  refine ⟨by rw [nwO, if_pos ⟨by omega, by omega⟩], ⟨r1, r2, by omega, by omega⟩, ⟨Nat.le_succ_of_le n1, fun a ha => n2 a (Nat.le_of_succ_le ha)⟩, (if_neg (show ¬ t = hpN σ by omega)).trans k, LA_oth a1 n1 (by decide) (by decide), LA_oth a2 n1 (by decide) (by decide), LA_same a3 n1 (by decide) hn hQ, LA_oth a4 n1 (by decide) (by decide)⟩
theorem LI_mkp {Q : Nat → Prop} {C S : Nat} {σ : St} {t i : Nat} (h : LI Q C S σ t) (hi : i < 480) (hn : hpB σ (t + 4) i = none) : nwO σ 4 = some (nw σ 4 0 (nfl 4)) ∧ LI Q C S (mkO σ t 4 i 4) t := by
  obtain ⟨⟨r1, r2, r3, r4⟩, ⟨n1, n2⟩, k, a1, a2, a3, a4⟩ := h
  have hQ := n2 (hpN σ) (Nat.le_refl _)
  have c4 := cn_mk (c := 4) n1 (by decide) hn hi
  have c1 := fun n => cn_ot (d := 1) (d' := 4) (i := i) (c := 4) (n := n) n1 (by decide) (by decide)
  have c2 := fun n => cn_ot (d := 2) (d' := 4) (i := i) (c := 4) (n := n) n1 (by decide) (by decide)
  have c3 := fun n => cn_ot (d := 3) (d' := 4) (i := i) (c := 4) (n := n) n1 (by decide) (by decide)
  have e1 : hpC (mkO σ t 4 i 4) = hpC σ + 1 := rfl
  have e2 : hpS (mkO σ t 4 i 4) = hpS σ + 5 := rfl
  have e3 : nfl 4 = 5 := rfl
  have pc : pC (mkO σ t 4 i 4) t + 1 = pC σ t := by unfold pC; rw [c1, c2, c3]; omega
  have ps : pS (mkO σ t 4 i 4) t + 5 = pS σ t := by unfold pS; rw [c1, c2, c3]; omega
  refine ⟨by rw [nwO, if_pos ⟨by omega, by omega⟩], ⟨r1, r2, by omega, by omega⟩, ⟨Nat.le_succ_of_le n1, fun a ha => n2 a (Nat.le_of_succ_le ha)⟩, (if_neg (show ¬ t = hpN σ by omega)).trans k, LA_oth a1 n1 (by decide) (by decide), LA_oth a2 n1 (by decide) (by decide), LA_oth a3 n1 (by decide) (by decide), LA_same a4 n1 (by decide) hn hQ⟩
/-- nothing but fields that ok allows, and arrays that okB allows, has changed; what stands in arrays of objects stays -/
def FZ (ok : Nat → Nat → Prop) (okB : Nat → Prop) (σ τ : St) : Prop := hpN σ ≤ hpN τ ∧ (∀ a, a < hpN σ → hpK τ a = hpK σ a ∧ hpL τ a = hpL σ a ∧ (∀ f, hpR τ f a = hpR σ f a) ∧ (∀ f, hpJ τ f a = hpJ σ f a) ∧ (∀ j, hpA τ a j = hpA σ a j) ∧ (∀ j v, hpB σ a j = some v → hpB τ a j = some v) ∧ (∀ j, ¬ okB a → hpB τ a j = hpB σ a j) ∧ ∀ f, ¬ ok f a → hpI τ f a = hpI σ f a) ∧ ∀ i, hpG τ i = hpG σ i
theorem FZ_refl (ok : Nat → Nat → Prop) (okB : Nat → Prop) (σ : St) : FZ ok okB σ σ := ⟨Nat.le_refl _, fun _ _ => ⟨rfl, rfl, fun _ => rfl, fun _ => rfl, fun _ => rfl, fun _ _ h => h, fun _ _ => rfl, fun _ _ => rfl⟩, fun _ => rfl⟩
theorem FZ_trans {ok : Nat → Nat → Prop} {okB : Nat → Prop} {σ τ ρ : St} (h : FZ ok okB σ τ) (g : FZ ok okB τ ρ) : FZ ok okB σ ρ := by
  refine ⟨Nat.le_trans h.1 g.1, fun a ha => ?_, fun i => (g.2.2 i).trans (h.2.2 i)⟩
  obtain ⟨a1, a2, a3, a4, a5, a6, a7, a8⟩ := h.2.1 a ha
  obtain ⟨b1, b2, b3, b4, b5, b6, b7, b8⟩ := g.2.1 a (Nat.lt_of_lt_of_le ha h.1)
  exact ⟨b1.trans a1, b2.trans a2, fun f => (b3 f).trans (a3 f), fun f => (b4 f).trans (a4 f), fun j => (b5 j).trans (a5 j), fun j v x => b6 j v (a6 j v x), fun j x => (b7 j x).trans (a7 j x), fun f x => (b8 f x).trans (a8 f x)⟩
theorem FZ_mono {ok ok' : Nat → Nat → Prop} {okB okB' : Nat → Prop} {σ τ : St} (h : FZ ok okB σ τ) (g : ∀ f a, ok f a → ok' f a) (gB : ∀ a, okB a → okB' a) : FZ ok' okB' σ τ := by
  refine ⟨h.1, fun a ha => ?_, h.2.2⟩
  obtain ⟨a1, a2, a3, a4, a5, a6, a7, a8⟩ := h.2.1 a ha
  exact ⟨a1, a2, a3, a4, a5, a6, fun j x => a7 j (fun y => x (gB a y)), fun f x => a8 f (fun y => x (g f a y))⟩
theorem FZ_stI {ok : Nat → Nat → Prop} {okB : Nat → Prop} {σ τ : St} (h : FZ ok okB σ τ) (f0 a0 : Nat) (v : Int32) (g : ok f0 a0) : FZ ok okB σ (stI τ f0 a0 v) := by
  refine ⟨h.1, fun a ha => ?_, h.2.2⟩
  obtain ⟨a1, a2, a3, a4, a5, a6, a7, a8⟩ := h.2.1 a ha
  refine ⟨a1, a2, a3, a4, a5, a6, a7, fun f x => ?_⟩
  rw [hpI_stI, if_neg (fun y => x (by rw [y.1, y.2]; exact g))]; exact a8 f x
theorem FZ_mk {ok : Nat → Nat → Prop} {okB : Nat → Prop} {σ τ : St} (h : FZ ok okB σ τ) {t d i : Nat} (c : Nat) (ht : t + 5 ≤ hpN τ) (hd : d < 5) (hn : hpB τ (t + d) i = none) (g : okB (t + d)) : FZ ok okB σ (mkO τ t d i c) := by
  refine ⟨Nat.le_succ_of_le h.1, fun a ha => ?_, h.2.2⟩
  obtain ⟨a1, a2, a3, a4, a5, a6, a7, a8⟩ := h.2.1 a ha
  have hne : a ≠ hpN τ := by have := h.1; omega
  refine ⟨(if_neg hne).trans a1, (if_neg hne).trans a2, fun f => (if_neg hne).trans (a3 f), fun f => (if_neg hne).trans (a4 f), fun j => (if_neg hne).trans (a5 j), fun j v x => ?_, fun j x => ?_, fun f x => (if_neg hne).trans (a8 f x)⟩
  · have b := a6 j v x
    rw [mkO_B, if_neg (fun y => by rw [y.1, y.2, hn] at b; cases b), if_neg hne]; exact b
  · rw [mkO_B, if_neg (fun y => x (by rw [y.1]; exact g)), if_neg hne]; exact a7 j x
theorem c_rowAt {Q : Nat → Prop} {C S : Nat} {σ : St} {t n : Nat} (h : LI Q C S σ t) (hc : hpI σ 36 t = zI n) (hn : n ≤ 480) (z : Int) (z1 : -2147483648 ≤ z) (z2 : z ≤ 2147483647) : f_X1_rowAt σ t (zI z) = some (if 0 ≤ z ∧ z < n then hpB σ (t + 1) z.toNat else none) := by
  obtain ⟨a1, a2, a3, a4, a5⟩ := h.2.2.2.1
  have e0 : (0 : Int32) = zI 0 := rfl
  have l1 : (zI z < zI 0) ↔ z < 0 := zlt z1 z2 (by omega) (by omega)
  have l2 : (zI (n : Int) ≤ zI z) ↔ (n : Int) ≤ z := zle (by omega) (by omega) z1 z2
  rw [f_X1_rowAt, hc, e0]
  by_cases q : z < 0
  · rw [if_pos (l1.mpr q), if_neg (by omega)]
  · rw [if_neg (fun x => q (l1.mp x))]
    by_cases q2 : (n : Int) ≤ z
    · rw [if_pos (l2.mpr q2), if_neg (by omega)]
    · rw [if_neg (fun x => q2 (l2.mp x)), if_pos (by omega), a1, dn_eq a2, bnd, a3, nI_z, if_pos ((zlt z1 z2 (by omega) (by omega)).mpr (by omega)), zI_ix (by omega) (by omega) (by omega), bnd]
theorem c_rowAtN {Q : Nat → Prop} {C S : Nat} {σ : St} {t n i : Nat} (h : LI Q C S σ t) (hc : hpI σ 36 t = zI n) (hn : n ≤ 480) (hi : i < n) : f_X1_rowAt σ t (zI i) = some (hpB σ (t + 1) i) := by
  rw [c_rowAt h hc hn i (by omega) (by omega), if_pos ⟨by omega, by omega⟩]; rfl
theorem c_spanAt {Q : Nat → Prop} {C S : Nat} {σ : St} {t n : Nat} (h : LI Q C S σ t) (hc : hpI σ 39 t = zI n) (hn : n ≤ 24) (z : Int) (z1 : -2147483648 ≤ z) (z2 : z ≤ 2147483647) : f_X1_spanAt σ t (zI z) = some (if 0 ≤ z ∧ z < n then hpB σ (t + 2) z.toNat else none) := by
  obtain ⟨a1, a2, a3, a4, a5⟩ := h.2.2.2.2.1
  have e0 : (0 : Int32) = zI 0 := rfl
  have l1 : (zI z < zI 0) ↔ z < 0 := zlt z1 z2 (by omega) (by omega)
  have l2 : (zI (n : Int) ≤ zI z) ↔ (n : Int) ≤ z := zle (by omega) (by omega) z1 z2
  rw [f_X1_spanAt, hc, e0]
  by_cases q : z < 0
  · rw [if_pos (l1.mpr q), if_neg (by omega)]
  · rw [if_neg (fun x => q (l1.mp x))]
    by_cases q2 : (n : Int) ≤ z
    · rw [if_pos (l2.mpr q2), if_neg (by omega)]
    · rw [if_neg (fun x => q2 (l2.mp x)), if_pos (by omega), a1, dn_eq a2, bnd, a3, nI_z, if_pos ((zlt z1 z2 (by omega) (by omega)).mpr (by omega)), zI_ix (by omega) (by omega) (by omega), bnd]
theorem c_spanAtN {Q : Nat → Prop} {C S : Nat} {σ : St} {t n i : Nat} (h : LI Q C S σ t) (hc : hpI σ 39 t = zI n) (hn : n ≤ 24) (hi : i < n) : f_X1_spanAt σ t (zI i) = some (hpB σ (t + 2) i) := by
  rw [c_spanAt h hc hn i (by omega) (by omega), if_pos ⟨by omega, by omega⟩]; rfl
theorem c_stanzaAt {Q : Nat → Prop} {C S : Nat} {σ : St} {t n : Nat} (h : LI Q C S σ t) (hc : hpI σ 37 t = zI n) (hn : n ≤ 24) (z : Int) (z1 : -2147483648 ≤ z) (z2 : z ≤ 2147483647) : f_X1_stanzaAt σ t (zI z) = some (if 0 ≤ z ∧ z < n then hpB σ (t + 3) z.toNat else none) := by
  obtain ⟨a1, a2, a3, a4, a5⟩ := h.2.2.2.2.2.1
  have e0 : (0 : Int32) = zI 0 := rfl
  have l1 : (zI z < zI 0) ↔ z < 0 := zlt z1 z2 (by omega) (by omega)
  have l2 : (zI (n : Int) ≤ zI z) ↔ (n : Int) ≤ z := zle (by omega) (by omega) z1 z2
  rw [f_X1_stanzaAt, hc, e0]
  by_cases q : z < 0
  · rw [if_pos (l1.mpr q), if_neg (by omega)]
  · rw [if_neg (fun x => q (l1.mp x))]
    by_cases q2 : (n : Int) ≤ z
    · rw [if_pos (l2.mpr q2), if_neg (by omega)]
    · rw [if_neg (fun x => q2 (l2.mp x)), if_pos (by omega), a1, dn_eq a2, bnd, a3, nI_z, if_pos ((zlt z1 z2 (by omega) (by omega)).mpr (by omega)), zI_ix (by omega) (by omega) (by omega), bnd]
theorem c_stanzaAtN {Q : Nat → Prop} {C S : Nat} {σ : St} {t n i : Nat} (h : LI Q C S σ t) (hc : hpI σ 37 t = zI n) (hn : n ≤ 24) (hi : i < n) : f_X1_stanzaAt σ t (zI i) = some (hpB σ (t + 3) i) := by
  rw [c_stanzaAt h hc hn i (by omega) (by omega), if_pos ⟨by omega, by omega⟩]; rfl
theorem c_pageAt {Q : Nat → Prop} {C S : Nat} {σ : St} {t n : Nat} (h : LI Q C S σ t) (hc : hpI σ 38 t = zI n) (hn : n ≤ 480) (z : Int) (z1 : -2147483648 ≤ z) (z2 : z ≤ 2147483647) : f_X1_pageAt σ t (zI z) = some (if 0 ≤ z ∧ z < n then hpB σ (t + 4) z.toNat else none) := by
  obtain ⟨a1, a2, a3, a4, a5⟩ := h.2.2.2.2.2.2
  have e0 : (0 : Int32) = zI 0 := rfl
  have l1 : (zI z < zI 0) ↔ z < 0 := zlt z1 z2 (by omega) (by omega)
  have l2 : (zI (n : Int) ≤ zI z) ↔ (n : Int) ≤ z := zle (by omega) (by omega) z1 z2
  rw [f_X1_pageAt, hc, e0]
  by_cases q : z < 0
  · rw [if_pos (l1.mpr q), if_neg (by omega)]
  · rw [if_neg (fun x => q (l1.mp x))]
    by_cases q2 : (n : Int) ≤ z
    · rw [if_pos (l2.mpr q2), if_neg (by omega)]
    · rw [if_neg (fun x => q2 (l2.mp x)), if_pos (by omega), a1, dn_eq a2, bnd, a3, nI_z, if_pos ((zlt z1 z2 (by omega) (by omega)).mpr (by omega)), zI_ix (by omega) (by omega) (by omega), bnd]
theorem c_pageAtN {Q : Nat → Prop} {C S : Nat} {σ : St} {t n i : Nat} (h : LI Q C S σ t) (hc : hpI σ 38 t = zI n) (hn : n ≤ 480) (hi : i < n) : f_X1_pageAt σ t (zI i) = some (hpB σ (t + 4) i) := by
  rw [c_pageAt h hc hn i (by omega) (by omega), if_pos ⟨by omega, by omega⟩]; rfl
theorem c_rowAt0 {Q : Nat → Prop} {C S : Nat} {σ : St} {t n : Nat} (h : LI Q C S σ t) (hc : hpI σ 36 t = zI n) (hn : n ≤ 480) (z : Int) (z1 : -2147483648 ≤ z) (z2 : z ≤ 2147483647) (q : ¬ (0 ≤ z ∧ z < n)) : f_X1_rowAt σ t (zI z) = some none := by
  rw [c_rowAt h hc hn z z1 z2, if_neg q]
theorem c_spanAt0 {Q : Nat → Prop} {C S : Nat} {σ : St} {t n : Nat} (h : LI Q C S σ t) (hc : hpI σ 39 t = zI n) (hn : n ≤ 24) (z : Int) (z1 : -2147483648 ≤ z) (z2 : z ≤ 2147483647) (q : ¬ (0 ≤ z ∧ z < n)) : f_X1_spanAt σ t (zI z) = some none := by
  rw [c_spanAt h hc hn z z1 z2, if_neg q]
theorem c_pageAt0 {Q : Nat → Prop} {C S : Nat} {σ : St} {t n : Nat} (h : LI Q C S σ t) (hc : hpI σ 38 t = zI n) (hn : n ≤ 480) (z : Int) (z1 : -2147483648 ≤ z) (z2 : z ≤ 2147483647) (q : ¬ (0 ≤ z ∧ z < n)) : f_X1_pageAt σ t (zI z) = some none := by
  rw [c_pageAt h hc hn z z1 z2, if_neg q]
theorem LI_stI {Q : Nat → Prop} {C S : Nat} {σ : St} {t : Nat} (h : LI Q C S σ t) (f a : Nat) (v : Int32) : LI Q C S (stI σ f a v) t := by
  obtain ⟨⟨r1, r2, r3, r4⟩, n, k, a1, a2, a3, a4⟩ := h
  have e1 : pC (stI σ f a v) t = pC σ t := by unfold pC; rfl
  have e2 : pS (stI σ f a v) t = pS σ t := by unfold pS; rfl
  refine ⟨⟨r1, r2, ?_, ?_⟩, n, k, a1, a2, a3, a4⟩
  · rw [e1]; exact r3
  · rw [e2]; exact r4
theorem hIw (σ : St) (f0 a0 : Nat) (v : Int32) (f a : Nat) : hpI (stI σ f0 a0 v) f a = if f = f0 ∧ a = a0 then v else hpI σ f a := by
  have h := hpI_stI σ f0 a0 v f a
  rw [h]
theorem hI_f {σ : St} {f0 a0 f a : Nat} {v : Int32} (h : f ≠ f0) : hpI (stI σ f0 a0 v) f a = hpI σ f a := by rw [hIw, if_neg (fun x => h x.1)]
theorem hI_a {σ : St} {f0 a0 f a : Nat} {v : Int32} (h : a ≠ a0) : hpI (stI σ f0 a0 v) f a = hpI σ f a := by rw [hIw, if_neg (fun x => h x.2)]
theorem hI_e {σ : St} {f a : Nat} {v : Int32} : hpI (stI σ f a v) f a = v := by rw [hIw, if_pos ⟨rfl, rfl⟩]


-- the law's three arrays: a at x + 42, g at x + 43, r at x + 44
/-- σ with the array at a holding F -/
def wA (σ : St) (a : Nat) (F : Nat → Int32) : St := (σ.1, σ.2.1, σ.2.2.1, σ.2.2.2.1, σ.2.2.2.2.1, σ.2.2.2.2.2.1, σ.2.2.2.2.2.2.1, σ.2.2.2.2.2.2.2.1, (fun b j => if b = a then F j else σ.2.2.2.2.2.2.2.2.1 b j), σ.2.2.2.2.2.2.2.2.2.1, σ.2.2.2.2.2.2.2.2.2.2)
theorem hpA_wA (σ : St) (a : Nat) (F : Nat → Int32) (b j : Nat) : hpA (wA σ a F) b j = if b = a then F j else hpA σ b j := rfl
theorem stA_wA (σ : St) (a : Nat) (F : Nat → Int32) (j : Nat) (v : Int32) : stA (wA σ a F) a j v = wA σ a (upL F j v) := by
  have e : up2 (fun b i => if b = a then F i else σ.2.2.2.2.2.2.2.2.1 b i) a j v = fun b i => if b = a then upL F j v i else σ.2.2.2.2.2.2.2.2.1 b i := by
    funext b i
    show (if b = a ∧ i = j then v else if b = a then F i else _) = if b = a then (if i = j then v else F i) else _
    by_cases q : b = a
    · rw [if_pos q, if_pos q]
      by_cases r : i = j
      · rw [if_pos ⟨q, r⟩, if_pos r]
      · rw [if_neg (fun y => r y.2), if_neg r]
    · rw [if_neg (fun y => q y.1), if_neg q, if_neg q]
  show (σ.1, σ.2.1, σ.2.2.1, σ.2.2.2.1, σ.2.2.2.2.1, σ.2.2.2.2.2.1, σ.2.2.2.2.2.2.1, σ.2.2.2.2.2.2.2.1, up2 (fun b i => if b = a then F i else σ.2.2.2.2.2.2.2.2.1 b i) a j v, σ.2.2.2.2.2.2.2.2.2.1, σ.2.2.2.2.2.2.2.2.2.2) = _
  rw [e]; rfl
theorem wA_self (σ : St) (a : Nat) (F : Nat → Int32) (h : ∀ j, hpA σ a j = F j) : wA σ a F = σ := by
  have e : (fun b j => if b = a then F j else σ.2.2.2.2.2.2.2.2.1 b j) = σ.2.2.2.2.2.2.2.2.1 := by
    funext b j
    by_cases q : b = a
    · rw [if_pos q, q]; exact (h j).symm
    · rw [if_neg q]
  show (σ.1, σ.2.1, σ.2.2.1, σ.2.2.2.1, σ.2.2.2.2.1, σ.2.2.2.2.2.1, σ.2.2.2.2.2.2.1, σ.2.2.2.2.2.2.2.1, (fun b j => if b = a then F j else σ.2.2.2.2.2.2.2.2.1 b j), σ.2.2.2.2.2.2.2.2.2.1, σ.2.2.2.2.2.2.2.2.2.2) = _
  rw [e]
theorem stA_is (σ : St) (a j : Nat) (v : Int32) {F : Nat → Int32} (h : ∀ j, hpA σ a j = F j) : stA σ a j v = wA σ a (upL F j v) := by
  conv => lhs; rw [← wA_self σ a F h]
  exact stA_wA σ a F j v
def AR (x : Nat) (σ : St) (A G R : Nat → Int32) : Prop :=
  (hpK σ (x + 42) = 13 ∧ hpL σ (x + 42) = 64 ∧ ∀ j, hpA σ (x + 42) j = A j) ∧ (hpK σ (x + 43) = 13 ∧ hpL σ (x + 43) = 5 ∧ ∀ j, hpA σ (x + 43) j = G j) ∧ (hpK σ (x + 44) = 13 ∧ hpL σ (x + 44) = 64 ∧ ∀ j, hpA σ (x + 44) j = R j)
theorem AR_a {x : Nat} {σ : St} {A G R : Nat → Int32} (h : AR x σ A G R) (F : Nat → Int32) : AR x (wA σ (x + 42) F) F G R := by
  obtain ⟨⟨a1, a2, a3⟩, ⟨b1, b2, b3⟩, c1, c2, c3⟩ := h
  exact ⟨⟨a1, a2, fun j => by rw [hpA_wA, if_pos rfl]⟩, ⟨b1, b2, fun j => by rw [hpA_wA, if_neg (by omega)]; exact b3 j⟩, c1, c2, fun j => by rw [hpA_wA, if_neg (by omega)]; exact c3 j⟩
theorem AR_g {x : Nat} {σ : St} {A G R : Nat → Int32} (h : AR x σ A G R) (F : Nat → Int32) : AR x (wA σ (x + 43) F) A F R := by
  obtain ⟨⟨a1, a2, a3⟩, ⟨b1, b2, b3⟩, c1, c2, c3⟩ := h
  exact ⟨⟨a1, a2, fun j => by rw [hpA_wA, if_neg (by omega)]; exact a3 j⟩, ⟨b1, b2, fun j => by rw [hpA_wA, if_pos rfl]⟩, c1, c2, fun j => by rw [hpA_wA, if_neg (by omega)]; exact c3 j⟩
theorem AR_r {x : Nat} {σ : St} {A G R : Nat → Int32} (h : AR x σ A G R) (F : Nat → Int32) : AR x (wA σ (x + 44) F) A G F := by
  obtain ⟨⟨a1, a2, a3⟩, ⟨b1, b2, b3⟩, c1, c2, c3⟩ := h
  exact ⟨⟨a1, a2, fun j => by rw [hpA_wA, if_neg (by omega)]; exact a3 j⟩, ⟨b1, b2, fun j => by rw [hpA_wA, if_neg (by omega)]; exact b3 j⟩, c1, c2, fun j => by rw [hpA_wA, if_pos rfl]⟩
theorem AR_GK {x : Nat} {σ τ : St} {A G R : Nat → Int32} (h : AR x σ A G R) (g : GK x σ τ) (hN : x + 45 ≤ hpN σ) : AR x τ A G R := by
  obtain ⟨⟨a1, a2, a3⟩, ⟨b1, b2, b3⟩, c1, c2, c3⟩ := h
  obtain ⟨p1, p2, p3, p4, p5, p6, p7⟩ := g.2.1 (x + 42) (by omega)
  obtain ⟨q1, q2, q3, q4, q5, q6, q7⟩ := g.2.1 (x + 43) (by omega)
  obtain ⟨r1, r2, r3, r4, r5, r6, r7⟩ := g.2.1 (x + 44) (by omega)
  exact ⟨⟨p1.trans a1, p2.trans a2, fun j => (p5 j (fun y => by omega)).trans (a3 j)⟩, ⟨q1.trans b1, q2.trans b2, fun j => (q5 j (fun y => by omega)).trans (b3 j)⟩, r1.trans c1, r2.trans c2, fun j => (r5 j (fun y => by omega)).trans (c3 j)⟩
theorem GZ_wA (σ : St) (a : Nat) (F : Nat → Int32) : GZ (fun f b => b = a ∧ 352 ≤ f) (fun b => b = a) (fun _ => False) σ (wA σ a F) :=
  ⟨Nat.le_refl _, fun b hb => ⟨rfl, rfl, fun f => rfl, fun f x => rfl, fun j x => if_neg x, fun j _ => rfl, fun f x => rfl⟩, fun i => rfl⟩
/-- what the law writes into its arrays leaves the class -/
theorem KL_wA {x a : Nat} {τ : St} {F : Nat → Int32} {P : PoT} {hs : Nat → PoT} {c : Nat} {T : Nat → Int32} {n u v : Nat} (K : KL x τ P hs c T n) (R : Rm x τ u v) (h1 : x + 42 ≤ a) (h2 : a ≤ x + 44) : KL x (wA τ a F) P hs c T n ∧ Rm x (wA τ a F) u v := by
  obtain ⟨k, kL, ho⟩ := id K
  obtain ⟨k1, k2, k3, k4, k5, k6, k7, k8⟩ := id k
  have hN := k1.2.2.2.2.2.2
  have g := GZ_wA τ a F
  obtain ⟨m1, m2, m3, m4, m5⟩ := KI_mk k g (fun a h y => y) (fun b h y => by omega) (CT_GZ k2 g (by omega) (fun y => by omega) (fun y => by omega)) (PoB_GZ k3 g (fun f a h y => by omega) (fun a h y => by omega) (fun y => by omega) (fun y => by omega) (fun y => y)) (HiB_GZ k4 g (fun f a h y => by omega) (fun a h y => by omega) (fun y => by omega) (fun a h1 h2 => ⟨fun y => by omega, fun y => by omega⟩) (fun a h1 h2 y => y))
  exact ⟨⟨m1, LC_tr ho kL (fun f h1 h2 => (g.2.1 _ (by omega)).2.2.2.2.2.2 f (fun y => by omega)) (fun d j a h1 h2 h3 => h3) (fun d i a f h1 h2 h3 h4 h5 h6 => (g.2.1 a (LJ_ow k5 h1 h2 h3 h4).1).2.2.2.2.2.2 f (fun y => by omega)), ho⟩, by rw [m2, m3]; exact R.1, by rw [m4, m5]; exact R.2⟩
/-- class and arrays together -/
def WQ (x : Nat) (σ : St) (u v : Nat) (P : PoT) (T : Nat → Int32) (n : Nat) (A G R : Nat → Int32) : Prop := (∃ hs c, KL x σ P hs c T n) ∧ Rm x σ u v ∧ AR x σ A G R
theorem WQ_a {x u v n : Nat} {σ : St} {P : PoT} {T A G R : Nat → Int32} (h : WQ x σ u v P T n A G R) (F : Nat → Int32) : WQ x (wA σ (x + 42) F) u v P T n F G R := by
  obtain ⟨⟨hs, c, K⟩, Rr, hA⟩ := h
  obtain ⟨m1, m2⟩ := KL_wA (a := x + 42) (F := F) K Rr (by omega) (by omega)
  exact ⟨⟨hs, c, m1⟩, m2, AR_a hA F⟩
theorem WQ_g {x u v n : Nat} {σ : St} {P : PoT} {T A G R : Nat → Int32} (h : WQ x σ u v P T n A G R) (F : Nat → Int32) : WQ x (wA σ (x + 43) F) u v P T n A F R := by
  obtain ⟨⟨hs, c, K⟩, Rr, hA⟩ := h
  obtain ⟨m1, m2⟩ := KL_wA (a := x + 43) (F := F) K Rr (by omega) (by omega)
  exact ⟨⟨hs, c, m1⟩, m2, AR_g hA F⟩
theorem WQ_r {x u v n : Nat} {σ : St} {P : PoT} {T A G R : Nat → Int32} (h : WQ x σ u v P T n A G R) (F : Nat → Int32) : WQ x (wA σ (x + 44) F) u v P T n A G F := by
  obtain ⟨⟨hs, c, K⟩, Rr, hA⟩ := h
  obtain ⟨m1, m2⟩ := KL_wA (a := x + 44) (F := F) K Rr (by omega) (by omega)
  exact ⟨⟨hs, c, m1⟩, m2, AR_r hA F⟩
/-- below x nothing changes that the law reads -/
def PZ (x : Nat) (σ τ : St) : Prop := ∀ a, a < x → hpK τ a = hpK σ a ∧ hpL τ a = hpL σ a ∧ ∀ j, hpA τ a j = hpA σ a j
theorem PZ_trans {x : Nat} {σ τ ρ : St} (h : PZ x σ τ) (g : PZ x τ ρ) : PZ x σ ρ := fun a ha => ⟨(g a ha).1.trans (h a ha).1, (g a ha).2.1.trans (h a ha).2.1, fun j => ((g a ha).2.2 j).trans ((h a ha).2.2 j)⟩
theorem PZ_refl (x : Nat) (σ : St) : PZ x σ σ := fun _ _ => ⟨rfl, rfl, fun _ => rfl⟩
theorem PZ_wA {x a : Nat} (σ : St) (F : Nat → Int32) (h : x ≤ a) : PZ x σ (wA σ a F) := fun b hb => ⟨rfl, rfl, fun j => by rw [hpA_wA, if_neg (by omega)]⟩
theorem PZ_GK {x : Nat} {σ τ : St} (g : GK x σ τ) (hN : x ≤ hpN σ) : PZ x σ τ := fun a ha => by
  obtain ⟨a1, a2, a3, a4, a5, a6, a7⟩ := g.2.1 a (by omega)
  exact ⟨a1, a2, fun j => a5 j (fun y => by omega)⟩
theorem Rm_mono {x u v u' v' : Nat} {σ : St} (R : Rm x σ u v) (hu : u ≤ u') (hv : v ≤ v') : Rm x σ u' v' := ⟨Nat.le_trans R.1 hu, Nat.le_trans R.2 hv⟩
theorem WQ_mono {x u v u' v' n : Nat} {σ : St} {P : PoT} {T A G R : Nat → Int32} (h : WQ x σ u v P T n A G R) (hu : u ≤ u') (hv : v ≤ v') : WQ x σ u' v' P T n A G R := ⟨h.1, Rm_mono h.2.1 hu hv, h.2.2⟩

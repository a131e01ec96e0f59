theorem CT_GZ {ok : Nat → Nat → Prop} {okA okB : Nat → Prop} {σ τ : St} {u n : Nat} {T : Nat → Int32} (h : CT σ u T n) (g : GZ ok okA okB σ τ) (hu : u + 1 < hpN σ) (h1 : ¬ ok 257 u) (h2 : ¬ okA (u + 1)) : CT τ u T n := by
  obtain ⟨c1, c2, c3, c4, c5, c6, c7, c8⟩ := h
  obtain ⟨a1, a2, a3, a4, a5, a6, a7⟩ := g.2.1 u (by omega)
  obtain ⟨b1, b2, b3, b4, b5, b6, b7⟩ := g.2.1 (u + 1) hu
  exact ⟨c1, a1.trans c2, (a3 _).trans c3, b1.trans c4, b2.trans c5, (a7 257 h1).trans c6, fun j hj => (b5 j h2).trans (c7 j hj), c8⟩
theorem HiB_GZ {ok : Nat → Nat → Prop} {okA okB : Nat → Prop} {b : Nat} {σ τ : St} {h c : Nat} {hs : Nat → PoT} (H : HiB b σ h hs c) (g : GZ ok okA okB σ τ) (hk : ∀ f a, (64 ≤ f ∧ f < 96) ∨ (288 ≤ f ∧ f < 320) → ¬ ok f a) (hA : ∀ a, b ≤ a → ¬ okA a) (h1 : ¬ ok 1 h) (h2 : ∀ a, h + 2 ≤ a → a < h + 26 → ¬ ok 162 a ∧ ¬ okA a) (h3 : ∀ a, h + 1 ≤ a → a < h + 26 → ¬ okB a) : HiB b τ h hs c := by
  obtain ⟨⟨g1, g2, g3, g4, g5, g6⟩, g7, g8, g9, π, p1, p2, p3, p4⟩ := H
  obtain ⟨a1, a2, a3, a4, a5, a6, a7⟩ := g.2.1 h (by omega)
  obtain ⟨b1, b2, b3, b4, b5, b6, b7⟩ := g.2.1 (h + 1) (by omega)
  refine ⟨⟨a1.trans g1, (a3 _).trans g2, b1.trans g3, b2.trans g4, Nat.le_trans g5 g.1, g6⟩, (a7 1 h1).trans g7, g8, fun i hi => PoS_GZ (g9 i hi) g, π, p1, p2, fun i hi => (b6 i (h3 _ (by omega) (by omega))).trans (p3 i hi), fun i hi => ?_⟩
  have := p1 i (by omega)
  exact PoB_GZ (p4 i hi) g hk hA (h2 _ (by omega) (by omega)).1 (h2 _ (by omega) (by omega)).2 (h3 _ (by omega) (by omega))
/-- the static arrays of bounds -/
def Gs (x : Nat) (σ : St) : Prop := (hpG σ 1 < x ∧ hpK σ (hpG σ 1) = 20 ∧ hpL σ (hpG σ 1) = 5 ∧ ∀ i, i < 5 → hpA σ (hpG σ 1) i = zI (sLo i)) ∧ (hpG σ 2 < x ∧ hpK σ (hpG σ 2) = 20 ∧ hpL σ (hpG σ 2) = 5 ∧ ∀ i, i < 5 → hpA σ (hpG σ 2) i = zI (sHi i))
theorem Gs_GZ {ok : Nat → Nat → Prop} {okA okB : Nat → Prop} {σ τ : St} {x : Nat} (h : Gs x σ) (g : GZ ok okA okB σ τ) (hx : x ≤ hpN σ) (hA : ∀ a, a < x → ¬ okA a) : Gs x τ := by
  obtain ⟨⟨a1, a2, a3, a4⟩, b1, b2, b3, b4⟩ := h
  obtain ⟨c1, c2, c3, c4, c5, c6, c7⟩ := g.2.1 _ (Nat.lt_of_lt_of_le a1 hx)
  obtain ⟨d1, d2, d3, d4, d5, d6, d7⟩ := g.2.1 _ (Nat.lt_of_lt_of_le b1 hx)
  unfold Gs
  rw [g.2.2 1, g.2.2 2]
  exact ⟨⟨a1, c1.trans a2, c2.trans a3, fun i hi => (c5 i (hA _ a1)).trans (a4 i hi)⟩, b1, d1.trans b2, d2.trans b3, fun i hi => (d5 i (hA _ b1)).trans (b4 i hi)⟩
theorem c_elS {σ : St} {a i : Nat} {f : Nat → Nat} (h2 : hpK σ a = 20) (h3 : hpL σ a = 5) (h4 : ∀ i, i < 5 → hpA σ a i = zI (f i)) (hi : i < 5) : f_X10_element σ (some a) (zI i) = some (zI (f i)) := by
  rw [f_X10_element, if_neg (by simp), if_neg (zN_lt0 _ (by omega)), dnA_eq20 h2, bnd, h3, nI_z, if_pos ((zN_lt (by omega) (by omega)).mpr hi), ix_l _ _ hi (by omega), bnd, h4 i hi]
/-- the object's own fields -/
def KS (x : Nat) (σ : St) : Prop := hpK σ x = 10 ∧ hpR σ 320 x = some (x + 1) ∧ hpR σ 321 x = some (x + 3) ∧ hpR σ 322 x = some (x + 6) ∧ hpR σ 323 x = some (x + 32) ∧ hpR σ 324 x = some (x + 37) ∧ x + 45 ≤ hpN σ
theorem KS_GZ {ok : Nat → Nat → Prop} {okA okB : Nat → Prop} {σ τ : St} {x : Nat} (h : KS x σ) (g : GZ ok okA okB σ τ) : KS x τ := by
  obtain ⟨h1, h2, h3, h4, h5, h6, h7⟩ := h
  obtain ⟨a1, a2, a3, a4, a5, a6, a7⟩ := g.2.1 x (by omega)
  exact ⟨a1.trans h1, (a3 _).trans h2, (a3 _).trans h3, (a3 _).trans h4, (a3 _).trans h5, (a3 _).trans h6, Nat.le_trans h7 g.1⟩
/-- all that the class holds but what its layout says -/
def KI (x : Nat) (σ : St) (P : PoT) (hs : Nat → PoT) (c : Nat) (T : Nat → Int32) (n : Nat) : Prop := KS x σ ∧ CT σ (x + 1) T n ∧ PoB (x + 45) σ (x + 3) P ∧ HiB (x + 45) σ (x + 6) hs c ∧ LJ (fun _ => True) σ (x + 32) ∧ LJ (fun _ => True) σ (x + 37) ∧ Dj σ (x + 32) (x + 37) ∧ Gs x σ
def Rm (x : Nat) (σ : St) (u v : Nat) : Prop := hpC σ + pC σ (x + 32) + pC σ (x + 37) ≤ u ∧ hpS σ + pS σ (x + 32) + pS σ (x + 37) ≤ v
/-- what any call of the class leaves to the reference -/
def GK (x : Nat) (σ τ : St) : Prop := GZ (fun f _ => f < 352 ∧ (f < 64 ∨ 96 ≤ f) ∧ (f < 288 ∨ 320 ≤ f)) (fun a => x ≤ a ∧ a ≤ x + 41) (fun _ => True) σ τ
theorem KI_mk {ok : Nat → Nat → Prop} {okA okB : Nat → Prop} {x : Nat} {σ τ : St} {P P' : PoT} {hs hs' : Nat → PoT} {c c' : Nat} {T T' : Nat → Int32} {n n' : Nat} (K : KI x σ P hs c T n) (g : GZ ok okA okB σ τ) (hB : ∀ a, x + 33 ≤ a → ¬ okB a) (hA : ∀ a, a < x → ¬ okA a) (ct : CT τ (x + 1) T' n') (pb : PoB (x + 45) τ (x + 3) P') (hb : HiB (x + 45) τ (x + 6) hs' c') : KI x τ P' hs' c' T' n' ∧ pC τ (x + 32) = pC σ (x + 32) ∧ pC τ (x + 37) = pC σ (x + 37) ∧ pS τ (x + 32) = pS σ (x + 32) ∧ pS τ (x + 37) = pS σ (x + 37) := by
  obtain ⟨k1, k2, k3, k4, k5, k6, k7, k8⟩ := K
  have hN := k1.2.2.2.2.2.2
  obtain ⟨a1, a2, a3⟩ := LJ_GZ k5 g (fun d h1 h2 => hB _ (by omega))
  obtain ⟨b1, b2, b3⟩ := LJ_GZ k6 g (fun d h1 h2 => hB _ (by omega))
  exact ⟨⟨KS_GZ k1 g, ct, pb, hb, a1, b1, Dj_GZ k7 g (by omega) (by omega) (fun d h1 h2 => hB _ (by omega)) (fun d h1 h2 => hB _ (by omega)), Gs_GZ k8 g (by omega) hA⟩, a2, b2, a3, b3⟩
/-- a layout's call leaves all else -/
theorem ly_c {x t : Nat} {σ τ : St} {P : PoT} {hs : Nat → PoT} {c : Nat} {T : Nat → Int32} {n : Nat} (ht : t = x + 32 ∨ t = x + 37) (K : KI x σ P hs c T n) (g : FZ (okLy σ t) (okLB t) σ τ) : KS x τ ∧ CT τ (x + 1) T n ∧ PoB (x + 45) τ (x + 3) P ∧ HiB (x + 45) τ (x + 6) hs c ∧ Gs x τ ∧ GK x σ τ := by
  obtain ⟨k1, k2, k3, k4, k5, k6, k7, k8⟩ := K
  have hN := k1.2.2.2.2.2.2
  have g' := GZ_FZ g
  refine ⟨KS_GZ k1 g', CT_GZ k2 g' (by omega) (fun y => by unfold okLy at y; omega) (fun y => y), PoB_GZ k3 g' (fun f a h1 y => by unfold okLy at y; omega) (fun _ _ y => y) (fun y => by unfold okLy at y; omega) (fun y => y) (fun y => by unfold okLB at y; omega), HiB_GZ k4 g' (fun f a h1 y => by unfold okLy at y; omega) (fun _ _ y => y) (fun y => by unfold okLy at y; omega) (fun a h1 h2 => ⟨fun y => by unfold okLy at y; omega, fun y => y⟩) (fun a h1 h2 y => by unfold okLB at y; omega), Gs_GZ k8 g' (by omega) (fun _ _ y => y), GZ_mono g' (fun f a y => by unfold okLy at y; omega) (fun a y => y.elim) (fun _ _ => trivial)⟩
theorem k_layOut {x : Nat} {σ : St} {P : PoT} {hs : Nat → PoT} {c : Nat} {T : Nat → Int32} {n u v : Nat} (ho : okP P) (K : KI x σ P hs c T n) (R : Rm x σ u v) (hu : u ≤ NX) (hv : v ≤ SX) :
    ∃ τ, f_X10_layOut σ x = some τ ∧ KI x τ P hs c T n ∧ LC τ (x + 32) P (P.2.2 0) (P.2.2 1) ∧ Rm x τ u v ∧ GK x σ τ := by
  obtain ⟨k1, k2, k3, k4, k5, k6, k7, k8⟩ := id K
  obtain ⟨s1, s2, s3, s4, s5, s6, s7⟩ := ho.2.2
  have hN := k1.2.2.2.2.2.2
  obtain ⟨τ1, a1, a2, a3⟩ := l_break ho s1 s2 k3.1 k5 (by have := R.1; omega) (by have := R.2; omega)
  obtain ⟨w1, w2, w3, w4, w5, w6⟩ := ly_c (Or.inl rfl) K a3
  obtain ⟨τ2, b1, b2, b3⟩ := l_pages ho s1 s2 s4 s3 a2
  have g := FZ_trans a3 b3
  obtain ⟨z1, z2, z3, z4, z5, z6⟩ := ly_c (Or.inl rfl) K g
  obtain ⟨o1, o2, o3⟩ := l_otherJ g k6 (Or.inl (by omega))
  obtain ⟨r1, r2, r3, r4⟩ := b2.1.1.1
  refine ⟨τ2, ?_, ⟨z1, z2, z3, z4, LJ_T (LJ_of b2.1.1), o1, l_dj g b2.1.1 k6 k7 (Or.inl (by omega)), z5⟩, LC_of b2, ⟨by rw [o2]; have := R.1; omega, by rw [o3]; have := R.2; omega⟩, z6⟩
  have e0 : f_X5_setting σ (x + 3) 0 = some (zI (P.2.2 0)) := c_setting (i := 0) k3.1 (by decide)
  have e1 : f_X5_setting τ1 (x + 3) 1 = some (zI (P.2.2 1)) := c_setting (i := 1) w3.1 (by decide)
  have e4 : f_X5_setting τ1 (x + 3) 4 = some (zI (P.2.2 4)) := c_setting (i := 4) w3.1 (by decide)
  rw [f_X10_layOut, k1.2.2.1, dn_eq k3.1.1.1, bnd, e0, bnd, k1.2.2.2.2.1, dn_eq k5.2.1, bnd, a1, bnd, dn_eq w1.1, bnd, w1.2.2.1, dn_eq w3.1.1.1, bnd, e1, bnd, e4, bnd, w1.2.2.2.2.1, dn_eq a2.1.2.2.1, bnd, b1, bnd]
/-- a state is kept -/
theorem k_keep {x : Nat} {σ : St} {P : PoT} {hs : Nat → PoT} {c : Nat} {T : Nat → Int32} {n u v : Nat} (K : KI x σ P hs c T n) (R : Rm x σ u v) :
    ∃ τ, f_X0_keepState σ (x + 6) (some (x + 3)) = some τ ∧ KI x τ P (hsK hs c P) (cK c) T n ∧ Rm x τ u v ∧ GK x σ τ ∧ GZ (okH (x + 6)) (okHA (x + 6)) (okHB (x + 6)) σ τ ∧ SZ σ τ := by
  obtain ⟨k1, k2, k3, k4, k5, k6, k7, k8⟩ := id K
  have hN := k1.2.2.2.2.2.2
  obtain ⟨τ, a1, a2, a3, a4⟩ := c_keepState k4 k3 (by omega)
  obtain ⟨m1, m2, m3, m4, m5⟩ := KI_mk K a3 (fun a h y => by unfold okHB at y; omega) (fun a h y => by unfold okHA at y; omega) (CT_GZ k2 a3 (by omega) (fun y => by unfold okH at y; omega) (fun y => by unfold okHA at y; omega)) (PoB_GZ k3 a3 (fun f a h y => by unfold okH at y; omega) (fun a h y => by unfold okHA at y; omega) (fun y => by unfold okH at y; omega) (fun y => by unfold okHA at y; omega) (fun y => by unfold okHB at y; omega)) a2
  refine ⟨τ, a1, m1, ⟨?_, ?_⟩, GZ_mono a3 (fun f a y => by unfold okH at y; omega) (fun a y => by unfold okHA at y; omega) (fun _ _ => trivial), a3, a4⟩
  · rw [m2, m3, a4.2.1]; exact R.1
  · rw [m4, m5, a4.2.2]; exact R.2
/-- the poem's own calls -/
theorem k_poem {x : Nat} {σ τ : St} {P P' : PoT} {hs : Nat → PoT} {c : Nat} {T : Nat → Int32} {n u v : Nat} (K : KI x σ P hs c T n) (R : Rm x σ u v) (g : GP (x + 3) σ τ) (sz : SZ σ τ) (hp : PoB (x + 45) τ (x + 3) P') : KI x τ P' hs c T n ∧ Rm x τ u v ∧ GK x σ τ := by
  obtain ⟨k1, k2, k3, k4, k5, k6, k7, k8⟩ := id K
  have hN := k1.2.2.2.2.2.2
  obtain ⟨m1, m2, m3, m4, m5⟩ := KI_mk K g (fun a h y => by unfold oB at y; omega) (fun a h y => y) (CT_GZ k2 g (by omega) (fun y => by unfold okO at y; omega) (fun y => y)) hp (HiB_GZ k4 g (okO_l _) (fun _ _ y => y) (fun y => by unfold okO at y; omega) (fun a h1 h2 => ⟨fun y => by unfold okO at y; omega, fun y => y⟩) (fun a h1 h2 y => by unfold oB at y; omega))
  refine ⟨m1, ⟨?_, ?_⟩, GZ_mono g (fun f a y => by unfold okO at y; omega) (fun a y => y.elim) (fun _ _ => trivial)⟩
  · rw [m2, m3, sz.2.1]; exact R.1
  · rw [m4, m5, sz.2.2]; exact R.2
theorem GK_trans {x : Nat} {σ τ ρ : St} (h : GK x σ τ) (g : GK x τ ρ) : GK x σ ρ := GZ_trans h g
theorem GK_refl (x : Nat) (σ : St) : GK x σ σ := GZ_refl _ _ _ _


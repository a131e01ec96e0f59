theorem c_toLineW {σ : St} {u : Nat} {T : Nat → Int32} {n : Nat} (h : CT σ u T n) (hu : u + 1 < hpN σ) (h1 : hpC σ + 4 ≤ NX) (h2 : hpS σ + 129 ≤ SX) : ∃ τ, f_X8_toLine σ u = some (some (hpN σ + 3), τ) ∧ CL τ (hpN σ + 3) (lenP T n) (cntP T n) (ltP T n) (sgP T 62 n) (anP T 126 n) (anP T 47 n) (byP (fun _ => 0) T n) (lnP T n) ∧ AG (hpN σ) σ τ ∧ hpN τ = hpN σ + 4 ∧ hpC τ = hpC σ + 4 ∧ hpS τ = hpS σ + 129 ∧ hpR τ 64 (hpN σ + 3) = some (hpN σ) := by
  have o1 : nwO σ 9 = some (nw σ 9 0 5) := nwO_ok (by omega) (by show hpS σ + 5 ≤ SX; omega)
  have k1 : hpK (nw σ 9 0 5) (hpN σ) = 9 := by rw [hpK_nw, if_pos rfl]
  obtain ⟨σ1, a1, a2, a3, a4, a5, a6⟩ := c_words0 (σ := nw σ 9 0 5) (w := hpN σ) rfl k1 (by rw [hpC_nw]; omega) (by rw [hpS_nw]; omega)
  have g1 : AG (hpN σ) σ σ1 := AG_trans (AG_nw (AG_refl _ σ) _ _ _ (by omega)) a3
  have l0 : lnP T 0 = fun _ => 0 := rfl
  obtain ⟨σ2, b1, b2, b3, b4, b5⟩ := c_toLine1 (σ := σ1) (Z := fun _ => 0) (n := n) hu n 0 FU σ1 (by omega) (by omega) (by have := h.1; simp only [FU]; omega) (CT_AG h g1 hu) a2 (AG_refl _ _) ⟨rfl, rfl, rfl⟩
  have b1' : LX8_toLine_18 FU u (some (hpN σ)) 0 0 0 0 σ1 = some (zI (anP T 126 n), zI (anP T 47 n), zI (sgP T 62 n), σ2) := b1
  have n2 : hpN σ2 = hpN σ + 3 := b5.1.trans a4
  have c2 : hpC σ2 = hpC σ + 3 := by rw [b5.2.1, a5, hpC_nw]
  have s2 : hpS σ2 = hpS σ + 125 := by rw [b5.2.2, a6, hpS_nw]
  have o2 : nwO σ2 2 = some (nw σ2 2 0 4) := nwO_ok (by omega) (by show hpS σ2 + 4 ≤ SX; omega)
  have k2 : hpK (nw σ2 2 0 4) (hpN σ2) = 2 := by rw [hpK_nw, if_pos rfl]
  have an : ∀ c i, anP T c i = 0 ∨ anP T c i = 1 := by
    intro c i
    induction i with
    | zero => exact Or.inl rfl
    | succ i ih => rw [anP]; split; exact Or.inr rfl; exact ih
  have gzn : ∀ x : Nat, x = 0 ∨ x = 1 → gz (zI x) = some (zI x) := by rintro x (rfl | rfl) <;> rfl
  rw [f_X8_toLine, o1, bnd, dn_k k1, bnd, a1, bnd, b1', bnd]
  simp only []
  rw [o2, bnd, dn_k k2, bnd, f_X2_init, gzn _ (an 126 n), bnd, gzn _ (an 47 n), bnd, bnd, n2]
  have g2 : AG (hpN σ) σ σ2 := AG_trans g1 b4
  refine ⟨_, rfl, ⟨?_, ⟨hpN σ, by omega, ?_, ?_⟩, ?_, ?_, ?_⟩, ?_, ?_, ?_, ?_, ?_⟩
  · simp [hsx, n2]
  · simp [hsx]
  · exact CW_AG b3 (AG_stI (AG_stI (AG_stI (AG_stR (AG_nw (AG_refl (hpN σ + 3) σ2) _ _ _ (by omega)) _ _ _ (by omega)) _ _ _ (by omega)) _ _ _ (by omega)) _ _ _ (by omega)) (by omega)
  · simp [hsx]
  · simp [hsx]
  · simp [hsx]
  · exact AG_stI (AG_stI (AG_stI (AG_stR (AG_nw g2 _ _ _ (by omega)) _ _ _ (by omega)) _ _ _ (by omega)) _ _ _ (by omega)) _ _ _ (by omega)
  · simp only [hsx]; omega
  · simp only [hsx]; omega
  · simp only [hsx]; omega
  · simp [hsx]
/-- a new line out of the text -/
theorem k_toLine {x : Nat} {σ : St} {P : PoT} {hs : Nat → PoT} {c : Nat} {T : Nat → Int32} {n u v : Nat} (K : KI x σ P hs c T n) (R : Rm x σ u v) (hu : u + 4 ≤ NX) (hv : v + 129 ≤ SX) :
    ∃ o τ, f_X8_toLine σ (x + 1) = some (o, τ) ∧ LnA (x + 45) τ o (lnT T n) ∧ KI x τ P hs c T n ∧ Rm x τ (u + 4) (v + 129) ∧ GK x σ τ := by
  obtain ⟨k1, k2, k3, k4, k5, k6, k7, k8⟩ := id K
  have hN := k1.2.2.2.2.2.2
  obtain ⟨τ, a1, a2, a3, a4, a5, a6, a7⟩ := c_toLineW k2 (by omega) (by have := R.1; omega) (by have := R.2; omega)
  have g := GZ_AG a3 (by omega)
  obtain ⟨m1, m2, m3, m4, m5⟩ := KI_mk K g (fun a h y => y) (fun a h y => y) (CT_GZ k2 g (by omega) (fun y => y) (fun y => y)) (PoB_GZ k3 g (fun f a h y => y) (fun a h y => y) (fun y => y) (fun y => y) (fun y => y)) (HiB_GZ k4 g (fun f a h y => y) (fun a h y => y) (fun y => y) (fun a h1 h2 => ⟨fun y => y, fun y => y⟩) (fun a h1 h2 y => y))
  refine ⟨_, τ, a1, ⟨_, rfl, by omega, a2, fun w hw => ?_⟩, m1, ⟨?_, ?_⟩, GZ_mono g (fun f a y => y.elim) (fun a y => y.elim) (fun _ _ => trivial)⟩
  · rw [a7] at hw; cases hw; exact hN
  · rw [m2, m3, a5]; have := R.1; omega
  · rw [m4, m5, a6]; have := R.2; omega
/-- all that the class holds -/
def KL (x : Nat) (σ : St) (P : PoT) (hs : Nat → PoT) (c : Nat) (T : Nat → Int32) (n : Nat) : Prop := KI x σ P hs c T n ∧ LC σ (x + 32) P (P.2.2 0) (P.2.2 1) ∧ okP P
theorem k_cnt {x : Nat} {σ : St} {P : PoT} {hs : Nat → PoT} {c : Nat} {T : Nat → Int32} {n : Nat} (K : KI x σ P hs c T n) : hpI σ 162 (x + 3) = zI P.2.1 ∧ P.2.1 ≤ 24 := ⟨K.2.2.1.1.2.1, K.2.2.1.1.2.2.1⟩
theorem k_insert {x : Nat} {σ : St} {P : PoT} {hs : Nat → PoT} {c : Nat} {T : Nat → Int32} {n u v : Nat} (K : KL x σ P hs c T n) (R : Rm x σ u v) (hu : u + 4 ≤ NX) (hv : v + 129 ≤ SX) (z : Int) (z1 : -2147483648 ≤ z) (z2 : z ≤ 2147483647) :
    ∃ r τ, f_X10_insert σ x (zI z) = some (r, τ) ∧ Rm x τ (u + 4) (v + 129) ∧ GK x σ τ ∧
      ((¬ (0 ≤ z ∧ z ≤ P.2.1) → r = -2 ∧ KL x τ P hs c T n) ∧
       (0 ≤ z ∧ z ≤ P.2.1 → Flt T n ≠ -1 → r = zI (-2000 - Flt T n) ∧ KL x τ P hs c T n) ∧
       (0 ≤ z ∧ z ≤ P.2.1 → Flt T n = -1 → P.2.1 = 24 → r = -4 ∧ KL x τ P hs c T n) ∧
       (0 ≤ z ∧ z ≤ P.2.1 → Flt T n = -1 → P.2.1 < 24 → r = zI (P.2.1 + 1 : Nat) ∧ KL x τ (insP P z.toNat (lnT T n)) (hsK hs c P) (cK c) T n)) := by
  obtain ⟨k, kL, ho⟩ := id K
  obtain ⟨k1, k2, k3, k4, k5, k6, k7, k8⟩ := id k
  obtain ⟨hc, h24⟩ := k_cnt k
  have hn := k2.1
  have e0 : (zI z < 0) ↔ z < 0 := zlt (b := 0) z1 z2 (by omega) (by omega)
  have e1 : (zI z ≤ zI (P.2.1 : Int)) ↔ z ≤ P.2.1 := zle z1 z2 (by omega) (by omega)
  have R' : Rm x σ (u + 4) (v + 129) := ⟨Nat.le_trans R.1 (by omega), Nat.le_trans R.2 (by omega)⟩
  rw [f_X10_insert]
  by_cases q0 : z < 0
  · rw [if_pos (e0.mpr q0)]
    exact ⟨_, _, rfl, R', GK_refl _ _, fun _ => ⟨rfl, K⟩, fun y => by omega, fun y => by omega, fun y => by omega⟩
  · rw [if_neg (fun y => q0 (e0.mp y)), k1.2.2.1, dn_eq k3.1.1.1, bnd, hc]
    by_cases q1 : z ≤ P.2.1
    · rw [if_pos (e1.mpr q1), k1.2.1, dn_k k2.2.1, bnd, c_lineFault k2, bnd]
      by_cases f : Flt T n = -1
      · rw [if_pos ((m1_Flt hn).mpr f)]
        by_cases e : P.2.1 = 24
        · rw [if_neg (fun y => by have := (zN_lt (b := 24) (by omega) (by omega)).mp y; omega)]
          exact ⟨_, _, rfl, R', GK_refl _ _, fun y => absurd ⟨by omega, q1⟩ y, fun _ y => absurd f y, fun _ _ _ => ⟨rfl, K⟩, fun _ _ y => by omega⟩
        · have l24 : zI (P.2.1 : Int) < 24 := (zN_lt (b := 24) (by omega) (by omega)).mpr (by omega)
          obtain ⟨p, rfl⟩ : ∃ p : Nat, z = p := ⟨z.toNat, by omega⟩
          obtain ⟨τ1, a1, a2, a3, a4, -, -⟩ := k_keep k R
          obtain ⟨o, τ2, b1, b2, b3, b4, b5⟩ := k_toLine a2 a3 hu hv
          obtain ⟨τ3, c1, c2, c3, c4⟩ := c_putIn (at0 := p) b3.2.2.1 (by omega) (by omega) b2
          obtain ⟨d1, d2, d3⟩ := k_poem b3 b4 c3 c4 c2
          have hok := okP_ins ho (show P.2.1 < 24 by omega) (show p ≤ P.2.1 by omega) (lnT_ok hn f)
          obtain ⟨τ4, f1, f2, f3, f4, f5⟩ := k_layOut hok d1 d2 (by omega) (by omega)
          rw [if_pos l24, k1.2.2.2.1, dn_eq k4.1.1, bnd, a1, bnd, dn_eq a2.1.1, bnd, a2.1.2.1, dn_k a2.2.1.2.1, bnd, b1, bnd, a2.1.2.2.1, dn_eq b3.2.2.1.1.1.1, bnd, c1, bnd, dn_eq d1.1.1, bnd, f1, bnd, dn_eq f2.1.1, bnd, f2.1.2.2.1, dn_eq f2.2.2.1.1.1.1, bnd, (k_cnt f2).1]
          exact ⟨_, _, rfl, f4, GK_trans a4 (GK_trans b5 (GK_trans d3 f5)), fun y => absurd ⟨by omega, q1⟩ y, fun _ y => absurd f y, fun _ _ y => absurd y e, fun _ _ _ => ⟨rfl, f2, f3, hok⟩⟩
      · rw [if_neg (fun y => f ((m1_Flt hn).mp y))]
        refine ⟨_, _, rfl, R', GK_refl _ _, fun y => absurd ⟨by omega, q1⟩ y, fun _ _ => ⟨?_, K⟩, fun _ y => absurd y f, fun _ y => absurd y f⟩
        rw [show (-2000 : Int32) = zI (-2000) from rfl, zI_sub]
    · rw [if_neg (fun y => q1 (e1.mp y))]
      exact ⟨_, _, rfl, R', GK_refl _ _, fun _ => ⟨rfl, K⟩, fun y => by omega, fun y => by omega, fun y => by omega⟩


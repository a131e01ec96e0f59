theorem k_replace {x : Nat} {σ : St} {P : PoT} {hs : Nat → PoT} {c : Nat} {T : Nat → Int32} {n u v : Nat} (K : KL x σ P hs c T n) (R : Rm x σ u v) (hu : u + 4 ≤ NX) (hv : v + 129 ≤ SX) (z : Int) (z1 : -2147483648 ≤ z) (z2 : z ≤ 2147483647) :
    ∃ r τ, f_X10_replace σ x (zI z) = some (r, τ) ∧ Rm x τ (u + 4) (v + 129) ∧ GK x σ τ ∧
      ((¬ (0 ≤ z ∧ z < P.2.1) → r = -2 ∧ KL x τ P hs c T n) ∧
       (0 ≤ z ∧ z < P.2.1 → Flt T n ≠ -1 → r = zI (-2000 - Flt T n) ∧ KL x τ P hs c T n) ∧
       (0 ≤ z ∧ z < P.2.1 → Flt T n = -1 → r = zI (nCnt (P.1 z.toNat)) ∧ KL x τ (putL P z.toNat (lnT T n)) (hsK hs c P) (cK c) T n)) := by
  obtain ⟨k, kL, ho⟩ := id K
  obtain ⟨k1, k2, k3, k4, k5, k6, k7, k8⟩ := id k
  obtain ⟨hc, h24⟩ := k_cnt k
  have hn := k2.1
  have R' : Rm x σ (u + 4) (v + 129) := ⟨Nat.le_trans R.1 (by omega), Nat.le_trans R.2 (by omega)⟩
  rw [f_X10_replace, k1.2.2.1, dn_eq k3.1.1.1, bnd]
  by_cases q : 0 ≤ z ∧ z < P.2.1
  · obtain ⟨p, rfl⟩ : ∃ p : Nat, z = p := ⟨z.toNat, by omega⟩
    have hpn : p < P.2.1 := by omega
    obtain ⟨al, l1, l2, l3, l4⟩ := c_lineAtN k3.1 hpn
    rw [l1, bnd, if_neg (by simp), k1.2.1, dn_k k2.2.1, bnd, c_lineFault k2, bnd]
    by_cases f : Flt T n = -1
    · obtain ⟨τ1, a1, a2, a3, a4, a5, a6⟩ := k_keep k R
      obtain ⟨o, τ2, b1, b2, b3, b4, b5⟩ := k_toLine a2 a3 hu hv
      obtain ⟨τ3, c1, c2, c3, c4⟩ := c_exchange (k := p) b3.2.2.1 hpn b2
      obtain ⟨d1, d2, d3⟩ := k_poem b3 b4 c3 c4 c2
      have hok : okP (putL P p (lnT T n)) := okP_put ho (lnT_ok hn f)
      obtain ⟨τ4, f1, f2, f3, f4, f5⟩ := k_layOut hok d1 d2 (by omega) (by omega)
      have G : GK x σ τ4 := GK_trans a4 (GK_trans b5 (GK_trans d3 f5))
      have old : LnA (x + 45) σ (some al) (P.1 p) := ⟨al, rfl, l3, l4, k3.2 p al hpn l2⟩
      -- the old line stands through all
      have hw : ∃ w, hpR σ 64 al = some w ∧ w + 2 < al ∧ CW σ w (nLen (P.1 p)) (nCnt (P.1 p)) (nLt (P.1 p)) (nB (P.1 p)) (nE (P.1 p)) := by
        obtain ⟨w, w1, w2, w3⟩ := l4.2.1; exact ⟨w, w2, w1, w3⟩
      obtain ⟨w, w1, w2, w3⟩ := hw
      have y1 : hpK τ4 al = 2 := (G.2.1 al l3).1.trans l4.1
      have y2 : hpR τ4 64 al = some w := ((G.2.1 al l3).2.2.1 64).trans w1
      have y3 : hpK τ4 w = 9 := (G.2.1 w (by omega)).1.trans w3.1
      have y4 : hpI τ4 291 w = zI (nCnt (P.1 p)) := ((G.2.1 w (by omega)).2.2.2.2.2.2 291 (fun y => by omega)).trans w3.2.2.2.2.2.2.2.2.1
      rw [if_pos ((m1_Flt hn).mpr f), k1.2.2.2.1, dn_eq k4.1.1, bnd, a1, bnd, dn_eq a2.1.1, bnd, a2.1.2.1, dn_k a2.2.1.2.1, bnd, b1, bnd, a2.1.2.2.1, dn_eq b3.2.2.1.1.1.1, bnd, c1, bnd, dn_eq d1.1.1, bnd, f1, bnd, dn_eq y1, bnd, y2, dn_eq y3, bnd, y4]
      exact ⟨_, _, rfl, f4, G, fun y => absurd q y, fun _ y => absurd f y, fun _ _ => ⟨rfl, f2, f3, hok⟩⟩
    · rw [if_neg (fun y => f ((m1_Flt hn).mp y))]
      refine ⟨_, _, rfl, R', GK_refl _ _, fun y => absurd q y, fun _ _ => ⟨?_, K⟩, fun _ y => absurd y f⟩
      rw [show (-2000 : Int32) = zI (-2000) from rfl, zI_sub]
  · rw [c_lineAt0 k3.1 z z1 z2 q, bnd, if_pos rfl]
    exact ⟨_, _, rfl, R', GK_refl _ _, fun _ => ⟨rfl, K⟩, fun y => absurd y q, fun y => absurd y q⟩
theorem k_remove {x : Nat} {σ : St} {P : PoT} {hs : Nat → PoT} {c : Nat} {T : Nat → Int32} {n u v : Nat} (K : KL x σ P hs c T n) (R : Rm x σ u v) (hu : u + 4 ≤ NX) (hv : v + 129 ≤ SX) (z : Int) (z1 : -2147483648 ≤ z) (z2 : z ≤ 2147483647) :
    ∃ r τ, f_X10_remove σ x (zI z) = some (r, τ) ∧ Rm x τ (u + 4) (v + 129) ∧ GK x σ τ ∧
      ((¬ (0 ≤ z ∧ z < P.2.1) → r = -2 ∧ KL x τ P hs c T n) ∧
       (0 ≤ z ∧ z < P.2.1 → r = zI (P.2.1 - 1 : Nat) ∧ KL x τ (dropP P z.toNat) (hsK hs c P) (cK c) T n)) := by
  obtain ⟨k, kL, ho⟩ := id K
  obtain ⟨k1, k2, k3, k4, k5, k6, k7, k8⟩ := id k
  have R' : Rm x σ (u + 4) (v + 129) := ⟨Nat.le_trans R.1 (by omega), Nat.le_trans R.2 (by omega)⟩
  rw [f_X10_remove, k1.2.2.1, dn_eq k3.1.1.1, bnd]
  by_cases q : 0 ≤ z ∧ z < P.2.1
  · obtain ⟨p, rfl⟩ : ∃ p : Nat, z = p := ⟨z.toNat, by omega⟩
    have hpn : p < P.2.1 := by omega
    obtain ⟨al, l1, l2, l3, l4⟩ := c_lineAtN k3.1 hpn
    obtain ⟨τ1, a1, a2, a3, a4, a5, a6⟩ := k_keep k R'
    obtain ⟨τ3, c1, c2, c3, c4⟩ := c_takeOut (at0 := p) a2.2.2.1 hpn
    obtain ⟨d1, d2, d3⟩ := k_poem a2 a3 c3 c4 c2
    have hok := okP_drop ho hpn
    obtain ⟨τ4, f1, f2, f3, f4, f5⟩ := k_layOut hok d1 d2 (by omega) (by omega)
    rw [l1, bnd, if_neg (by simp), k1.2.2.2.1, dn_eq k4.1.1, bnd, a1, bnd, dn_eq a2.1.1, bnd, a2.1.2.2.1, dn_eq a2.2.2.1.1.1.1, bnd, c1, bnd, dn_eq d1.1.1, bnd, f1, bnd, dn_eq f2.1.1, bnd, f2.1.2.2.1, dn_eq f2.2.2.1.1.1.1, bnd, (k_cnt f2).1]
    exact ⟨_, _, rfl, f4, GK_trans a4 (GK_trans d3 f5), fun y => absurd q y, fun _ => ⟨rfl, f2, f3, hok⟩⟩
  · rw [c_lineAt0 k3.1 z z1 z2 q, bnd, if_pos rfl]
    exact ⟨_, _, rfl, R', GK_refl _ _, fun _ => ⟨rfl, K⟩, fun y => absurd y q⟩
theorem k_set {x : Nat} {σ : St} {P : PoT} {hs : Nat → PoT} {c : Nat} {T : Nat → Int32} {n u v : Nat} (K : KL x σ P hs c T n) (R : Rm x σ u v) (hu : u + 4 ≤ NX) (hv : v + 129 ≤ SX) (z w : Int) (z1 : -2147483648 ≤ z) (z2 : z ≤ 2147483647) (w1 : -2147483648 ≤ w) (w2 : w ≤ 2147483647) :
    ∃ r τ, f_X10_set σ x (zI z) (zI w) = some (r, τ) ∧ Rm x τ (u + 4) (v + 129) ∧ GK x σ τ ∧
      ((¬ (0 ≤ z ∧ z < 5 ∧ sLo z.toNat ≤ w ∧ w ≤ sHi z.toNat) → r = -2 ∧ KL x τ P hs c T n) ∧
       (0 ≤ z ∧ z < 5 ∧ sLo z.toNat ≤ w ∧ w ≤ sHi z.toNat → r = zI (P.2.2 z.toNat) ∧ KL x τ (setP P z.toNat w.toNat) (hsK hs c P) (cK c) T n)) := by
  obtain ⟨k, kL, ho⟩ := id K
  obtain ⟨k1, k2, k3, k4, k5, k6, k7, k8⟩ := id k
  have hN := k1.2.2.2.2.2.2
  have R' : Rm x σ (u + 4) (v + 129) := ⟨Nat.le_trans R.1 (by omega), Nat.le_trans R.2 (by omega)⟩
  have bad : ∀ r τ, r = -2 → τ = σ → ¬ (0 ≤ z ∧ z < 5 ∧ sLo z.toNat ≤ w ∧ w ≤ sHi z.toNat) → Rm x τ (u + 4) (v + 129) ∧ GK x σ τ ∧ ((¬ (0 ≤ z ∧ z < 5 ∧ sLo z.toNat ≤ w ∧ w ≤ sHi z.toNat) → r = -2 ∧ KL x τ P hs c T n) ∧
       (0 ≤ z ∧ z < 5 ∧ sLo z.toNat ≤ w ∧ w ≤ sHi z.toNat → r = zI (P.2.2 z.toNat) ∧ KL x τ (setP P z.toNat w.toNat) (hsK hs c P) (cK c) T n)) := by
    intro r τ e1 e2 e3
    subst e1; subst e2
    exact ⟨R', GK_refl _ _, fun _ => ⟨rfl, K⟩, fun y => absurd y e3⟩
  have e1 : (zI z < 0) ↔ z < 0 := zlt (b := 0) z1 z2 (by omega) (by omega)
  have e2 : ((5 : Int32) ≤ zI z) ↔ 5 ≤ z := zle (a := 5) (by omega) (by omega) z1 z2
  rw [f_X10_set]
  by_cases q1 : z < 0
  · rw [if_pos (e1.mpr q1)]; exact ⟨_, _, rfl, bad _ _ rfl rfl (by omega)⟩
  · rw [if_neg (fun y => q1 (e1.mp y))]
    by_cases q2 : 5 ≤ z
    · rw [if_pos (e2.mpr q2)]; exact ⟨_, _, rfl, bad _ _ rfl rfl (by omega)⟩
    · rw [if_neg (fun y => q2 (e2.mp y))]
      obtain ⟨i, rfl⟩ : ∃ i : Nat, z = i := ⟨z.toNat, by omega⟩
      have hi : i < 5 := by omega
      obtain ⟨⟨y1, y2, y3, y4⟩, y5, y6, y7, y8⟩ := id k8
      have hlo : sLo i ≤ 12 := by unfold sLo; split <;> (try split) <;> omega
      have hhi : sHi i ≤ 60 := by unfold sHi; split <;> (try split) <;> (try split) <;> omega
      have e3 : (zI w < zI (sLo i)) ↔ w < sLo i := zlt w1 w2 (by omega) (by omega)
      have e4 : (zI w ≤ zI (sHi i)) ↔ w ≤ sHi i := zle w1 w2 (by omega) (by omega)
      have et : ((i : Int)).toNat = i := rfl
      rw [c_elS y2 y3 y4 hi, bnd]
      by_cases q3 : w < sLo i
      · rw [if_pos (e3.mpr q3)]; exact ⟨_, _, rfl, bad _ _ rfl rfl (by rw [et]; omega)⟩
      · rw [if_neg (fun y => q3 (e3.mp y)), c_elS y6 y7 y8 hi, bnd]
        by_cases q4 : w ≤ sHi i
        · rw [if_pos (e4.mpr q4)]
          obtain ⟨m, rfl⟩ : ∃ m : Nat, w = m := ⟨w.toNat, by omega⟩
          obtain ⟨τ1, g1, g2, g3, g4, g5, g6⟩ := k_keep k R'
          obtain ⟨τ3, d1, d2, d3, d4⟩ := c_changeSetting (k := i) (v := m) g2.2.2.1 hi (by omega)
          have hN1 := g2.1.2.2.2.2.2.2
          obtain ⟨m1, m2, m3, m4, m5⟩ := KI_mk g2 d3 (fun a h y => y) (fun a h y => by unfold oB at y; omega) (CT_GZ g2.2.1 d3 (by omega) (fun y => y) (fun y => by unfold oB at y; omega)) d2 (HiB_GZ g2.2.2.2.1 d3 (fun f a h y => y) (fun a h y => by unfold oB at y; omega) (fun y => y) (fun a h1 h2 => ⟨fun y => y, fun y => by unfold oB at y; omega⟩) (fun a h1 h2 y => y))
          have hok : okP (setP P i m) := okP_set ho hi (by omega) (by omega)
          obtain ⟨τ4, f1, f2, f3, f4, f5⟩ := k_layOut hok m1 (u := u + 4) (v := v + 129) ⟨by rw [m2, m3, d4.2.1]; exact g3.1, by rw [m4, m5, d4.2.2]; exact g3.2⟩ (by omega) (by omega)
          have G3 : GK x τ1 τ3 := GZ_mono d3 (fun f a y => y.elim) (fun a y => by unfold oB at y; omega) (fun _ _ => trivial)
          rw [k1.2.2.1, dn_eq k3.1.1.1, bnd, c_setting k3.1 hi, bnd, k1.2.2.2.1, dn_eq k4.1.1, bnd, g1, bnd, dn_eq g2.1.1, bnd, g2.1.2.2.1, dn_eq g2.2.2.1.1.1.1, bnd, d1, bnd, dn_eq m1.1.1, bnd, f1, bnd]
          exact ⟨_, _, rfl, f4, GK_trans g4 (GK_trans G3 f5), fun y => absurd ⟨by omega, by omega, by rw [et]; omega, by rw [et]; omega⟩ y, fun _ => ⟨rfl, f2, f3, hok⟩⟩
        · rw [if_neg (fun y => q4 (e4.mp y))]; exact ⟨_, _, rfl, bad _ _ rfl rfl (by rw [et]; omega)⟩


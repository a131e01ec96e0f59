theorem k_toggle {x : Nat} {σ : St} {P : PoT} {hs : Nat → PoT} {c : Nat} {T : Nat → Int32} {n u v : Nat} (K : KL x σ P hs c T n) (R : Rm x σ u v) (hu : u + 4 ≤ NX) (hv : v + 129 ≤ SX) (z : Int) (z1 : -2147483648 ≤ z) (z2 : z ≤ 2147483647) (b : Bool) :
    ∃ r τ, f_X10_toggle σ x (zI z) (if b = true then 1 else 0) = some (r, τ) ∧ Rm x τ (u + 4) (v + 129) ∧ GK x σ τ ∧
      ((¬ (0 ≤ z ∧ z < P.2.1) → r = -2 ∧ KL x τ P hs c T n) ∧
       (0 ≤ z ∧ z < P.2.1 → r = zI ((if b = true then 1 - nHf (P.1 z.toNat) else 1 - nLa (P.1 z.toNat) : Nat) : Int) ∧ KL x τ (putL P z.toNat (tgL (P.1 z.toNat) b)) (hsK hs c P) (cK c) T n)) := by
  obtain ⟨k, kL, ho⟩ := id K
  obtain ⟨k1, k2, k3, k4, k5, k6, k7, k8⟩ := id k
  have R' : Rm x σ (u + 4) (v + 129) := ⟨Nat.le_trans R.1 (by omega), Nat.le_trans R.2 (by omega)⟩
  rw [f_X10_toggle, k1.2.2.1, dn_eq k3.1.1.1, bnd]
  by_cases q : 0 ≤ z ∧ z < P.2.1
  · obtain ⟨p, rfl⟩ : ∃ p : Nat, z = p := ⟨z.toNat, by omega⟩
    have hpn : p < P.2.1 := by omega
    have et : ((p : Int)).toNat = p := rfl
    obtain ⟨al, l1, l2, l3, l4⟩ := c_lineAtN k3.1 hpn
    obtain ⟨o1, o2, o3, o4, o5, o6, o7⟩ := ho.2.1 p hpn
    obtain ⟨τ1, g1, g2, g3, g4, g5, g6⟩ := k_keep k R
    have hN1 := g2.1.2.2.2.2.2.2
    obtain ⟨⟨y1, ⟨w, w1, w2, w3⟩, y3, y4, y5⟩, yb⟩ := CLn_GZ l4 (k3.2 p al hpn l2) g4 l3 (fun f a h y => by omega) (fun a h y => by omega)
    have hal : al < hpN τ1 := Nat.lt_of_lt_of_le l3 g4.1
    have hwb := yb w w2
    -- the new line
    have rC : hpC τ1 + 1 ≤ NX := by have := g3.1; omega
    have rS : hpS τ1 + 4 ≤ SX := by have := g3.2; omega
    have on : nwO τ1 2 = some (nw τ1 2 0 4) := nwO_ok rC rS
    have gA : AG (hpN τ1) τ1 (nw τ1 2 0 4) := AG_nw (AG_refl _ τ1) _ _ _ (Nat.le_refl _)
    have k0 : hpK (nw τ1 2 0 4) (hpN τ1) = 2 := by rw [hpK_nw, if_pos rfl]
    have ka : hpK (nw τ1 2 0 4) al = 2 := by rw [hpK_nw, if_neg (by omega)]; exact y1
    have r64 : hpR (nw τ1 2 0 4) 64 al = some w := by rw [hpR_nw, if_neg (by omega)]; exact w2
    have i65 : hpI (nw τ1 2 0 4) 65 al = zI (nSt (P.1 p)) := by rw [hpI_nw, if_neg (by omega)]; exact y3
    obtain ⟨hf, ehf⟩ : ∃ hf : Nat, hf = (if b = true then 1 - nHf (P.1 p) else nHf (P.1 p)) := ⟨_, rfl⟩
    obtain ⟨la, ela⟩ : ∃ la : Nat, la = (if b = true then nLa (P.1 p) else 1 - nLa (P.1 p)) := ⟨_, rfl⟩
    have hf1 : hf = 0 ∨ hf = 1 := by rw [ehf]; split <;> omega
    have la1 : la = 0 ∨ la = 1 := by rw [ela]; split <;> omega
    have egz : ∀ m : Nat, m = 0 ∨ m = 1 → gz (zI m) = some (zI m) := by rintro m (rfl | rfl) <;> rfl
    have en : ∀ m : Nat, m ≤ 1 → (if ¬ zI (m : Int) = 0 then some (0 : Int32) else some 1) = some (zI ((1 - m : Nat) : Int)) := by
      intro m hm
      rcases (show m = 0 ∨ m = 1 by omega) with rfl | rfl <;> rfl
    have x10 : (if (if b = true then (1 : Int32) else 0) = 0 then (dn τ1 2 (some al)).bind fun a12 => some (hpI τ1 66 a12) else (dn τ1 2 (some al)).bind fun a14 => if ¬ (hpI τ1 66 a14) = 0 then some 0 else some 1) = some (zI hf) := by
      cases b
      · rw [if_pos (show (if false = true then (1 : Int32) else 0) = 0 from rfl), dn_eq y1, bnd, y4, ehf]; rfl
      · rw [if_neg (show ¬ (if true = true then (1 : Int32) else 0) = 0 by decide), dn_eq y1, bnd, y4, en _ o6, ehf]; rfl
    have x17 : (if (if b = true then (1 : Int32) else 0) = 0 then (dn τ1 2 (some al)).bind fun a19 => if ¬ (hpI τ1 67 a19) = 0 then some 0 else some 1 else (dn τ1 2 (some al)).bind fun a22 => some (hpI τ1 67 a22)) = some (zI la) := by
      cases b
      · rw [if_pos (show (if false = true then (1 : Int32) else 0) = 0 from rfl), dn_eq y1, bnd, y5, en _ o7, ela]; rfl
      · rw [if_neg (show ¬ (if true = true then (1 : Int32) else 0) = 0 by decide), dn_eq y1, bnd, y5, ela]; rfl
    have gA2 : AG (hpN τ1) τ1 (stI (stI (stI (stR (nw τ1 2 0 4) 64 (hpN τ1) (some w)) 65 (hpN τ1) (zI (nSt (P.1 p)))) 66 (hpN τ1) (zI hf)) 67 (hpN τ1) (zI la)) := AG_stI (AG_stI (AG_stI (AG_stR gA _ _ _ (Nat.le_refl _)) _ _ _ (Nat.le_refl _)) _ _ _ (Nat.le_refl _)) _ _ _ (Nat.le_refl _)
    obtain ⟨τ2, e2⟩ : ∃ τ2, τ2 = stI (stI (stI (stR (nw τ1 2 0 4) 64 (hpN τ1) (some w)) 65 (hpN τ1) (zI (nSt (P.1 p)))) 66 (hpN τ1) (zI hf)) 67 (hpN τ1) (zI la) := ⟨_, rfl⟩
    rw [← e2] at gA2
    have n2 : hpN τ2 = hpN τ1 + 1 := by rw [e2]; rfl
    have c2 : hpC τ2 = hpC τ1 + 1 := by rw [e2]; rfl
    have s2 : hpS τ2 = hpS τ1 + 4 := by rw [e2]; rfl
    have gz2 := GZ_AG gA2 (by omega)
    have L2 : LnA (x + 45) τ2 (some (hpN τ1)) (tgL (P.1 p) b) := by
      refine ⟨hpN τ1, rfl, by omega, ⟨?_, ⟨w, by omega, ?_, CW_GZ w3 gz2 (by omega) (fun f a _ _ y => y) (fun a _ y => y)⟩, ?_, ?_, ?_⟩, fun w' hw' => ?_⟩
      · rw [e2]; exact k0
      · rw [e2]; simp [hsx]
      · rw [e2]; simp [hsx]; rfl
      · rw [e2]; simp [hsx]; rw [ehf]; rfl
      · rw [e2]; simp [hsx]; rw [ela]; rfl
      · have : hpR τ2 64 (hpN τ1) = some w := by rw [e2]; simp [hsx]
        rw [this] at hw'; cases hw'; exact hwb
    obtain ⟨m1, m2, m3, m4, m5⟩ := KI_mk g2 gz2 (fun a h y => y) (fun a h y => y) (CT_GZ g2.2.1 gz2 (by omega) (fun y => y) (fun y => y)) (PoB_GZ g2.2.2.1 gz2 (fun f a h y => y) (fun a h y => y) (fun y => y) (fun y => y) (fun y => y)) (HiB_GZ g2.2.2.2.1 gz2 (fun f a h y => y) (fun a h y => y) (fun y => y) (fun a h1 h2 => ⟨fun y => y, fun y => y⟩) (fun a h1 h2 y => y))
    have R2 : Rm x τ2 (u + 4) (v + 129) := ⟨by rw [m2, m3, c2]; have := g3.1; omega, by rw [m4, m5, s2]; have := g3.2; omega⟩
    have G2 : GK x τ1 τ2 := GZ_mono gz2 (fun f a y => y.elim) (fun a y => y.elim) (fun _ _ => trivial)
    obtain ⟨τ3, d1, d2, d3, d4⟩ := c_exchange (k := p) m1.2.2.1 hpn L2
    obtain ⟨j1, j2, j3⟩ := k_poem m1 R2 d3 d4 d2
    have hok : okP (putL P p (tgL (P.1 p) b)) := okP_put ho (okL_tg (ho.2.1 p hpn) b)
    obtain ⟨τ4, f1, f2, f3, f4, f5⟩ := k_layOut hok j1 j2 (by omega) (by omega)
    have x42 : (if (if b = true then (1 : Int32) else 0) = 0 then some (zI (la : Int)) else some (zI (hf : Int))) = some (zI ((if b = true then 1 - nHf (P.1 p) else 1 - nLa (P.1 p) : Nat) : Int)) := by
      cases b
      · rw [if_pos (show (if false = true then (1 : Int32) else 0) = 0 from rfl), ela]; rfl
      · rw [if_neg (show ¬ (if true = true then (1 : Int32) else 0) = 0 by decide), ehf]; rfl
    have x44 : ∀ σ : St, ∀ m : Nat, m ≤ 1 → f_X10_oneIf σ (zI m) = some (zI m) := by
      intro σ m hm
      rcases (show m = 0 ∨ m = 1 by omega) with rfl | rfl <;> rfl
    have hi : f_X2_init (nw τ1 2 0 4) (hpN τ1) (some w) (zI (nSt (P.1 p))) (zI hf) (zI la) = some τ2 := by
      rw [f_X2_init, egz _ hf1, bnd, egz _ la1, bnd, e2]
    rw [l1, bnd, if_neg (by simp), k1.2.2.2.1, dn_eq k4.1.1, bnd, g1, bnd, x10, bnd, x17, bnd, dn_eq g2.1.1, bnd, on, bnd, dn_eq ka, bnd, dn_eq k0, bnd, r64, i65, hi, bnd, g2.1.2.2.1, dn_eq m1.2.2.1.1.1.1, bnd, d1, bnd, dn_eq j1.1.1, bnd, f1, bnd, x42, bnd, x44 _ _ (by split <;> omega), bnd]
    exact ⟨_, _, rfl, f4, GK_trans g4 (GK_trans G2 (GK_trans j3 f5)), fun y => absurd q y, fun _ => ⟨rfl, f2, f3, hok⟩⟩
  · rw [c_lineAt0 k3.1 z z1 z2 q, bnd, if_pos rfl]
    exact ⟨_, _, rfl, R', GK_refl _ _, fun _ => ⟨rfl, K⟩, fun y => absurd y q⟩
/-- the text's calls -/
theorem k_text {x : Nat} {σ τ : St} {P : PoT} {hs : Nat → PoT} {c : Nat} {T T' : Nat → Int32} {n n' u v : Nat} (K : KL x σ P hs c T n) (R : Rm x σ u v) (g : GZ (fun f a => f = 257 ∧ a = x + 1) (fun a => a = x + 2) (fun _ => False) σ τ) (sz : SZ σ τ) (ct : CT τ (x + 1) T' n') : KL x τ P hs c T' n' ∧ Rm x τ u v ∧ GK x σ τ := by
  obtain ⟨k, kL, ho⟩ := id K
  obtain ⟨k1, k2, k3, k4, k5, k6, k7, k8⟩ := id k
  have hN := k1.2.2.2.2.2.2
  obtain ⟨m1, m2, m3, m4, m5⟩ := KI_mk k g (fun a h y => y) (fun a h y => by omega) ct (PoB_GZ k3 g (fun f a h y => by omega) (fun a h y => by omega) (fun y => by omega) (fun y => by omega) (fun y => y)) (HiB_GZ k4 g (fun f a h y => by omega) (fun a h y => by omega) (fun y => by omega) (fun a h1 h2 => ⟨fun y => by omega, fun y => by omega⟩) (fun a h1 h2 y => y))
  refine ⟨⟨m1, LC_tr ho kL (fun f h1 h2 => (g.2.1 _ (by omega)).2.2.2.2.2.2 f (fun y => by omega)) (fun d j a h1 h2 h3 => ((g.2.1 _ (by omega)).2.2.2.2.2.1 j (fun y => y)).trans h3) (fun d i a f h1 h2 h3 h4 h5 h6 => (g.2.1 a (LJ_ow k5 h1 h2 h3 h4).1).2.2.2.2.2.2 f (fun y => by omega)), ho⟩, ⟨by rw [m2, m3, sz.2.1]; exact R.1, by rw [m4, m5, sz.2.2]; exact R.2⟩, GZ_mono g (fun f a y => by omega) (fun a y => by omega) (fun _ y => y.elim)⟩
theorem k_clear {x : Nat} {σ : St} {P : PoT} {hs : Nat → PoT} {c : Nat} {T : Nat → Int32} {n u v : Nat} (K : KL x σ P hs c T n) (R : Rm x σ u v) :
    ∃ τ, f_X10_clear σ x = some (zI n, τ) ∧ Rm x τ u v ∧ GK x σ τ ∧ KL x τ P hs c T 0 := by
  obtain ⟨k, kL, ho⟩ := id K
  obtain ⟨k1, k2, k3, k4, k5, k6, k7, k8⟩ := id k
  have hN := k1.2.2.2.2.2.2
  obtain ⟨c1, c2, c3, c4, c5, c6, c7, c8⟩ := id k2
  have g : GZ (fun f a => f = 257 ∧ a = x + 1) (fun a => a = x + 2) (fun _ => False) σ (stI σ 257 (x + 1) 0) := GZ_stI (GZ_refl _ _ _ _) 257 (x + 1) _ ⟨rfl, rfl⟩
  obtain ⟨m1, m2, m3⟩ := k_text (T' := T) (n' := 0) K R g (SZ_refl _) ⟨Nat.zero_le _, c2, c3, c4, c5, hI_e, fun j hj => absurd hj (Nat.not_lt_zero j), fun j hj => absurd hj (Nat.not_lt_zero j)⟩
  exact ⟨stI σ 257 (x + 1) 0, by rw [f_X10_clear, k1.2.1, dn_k c2, bnd, c6], m2, m3, m1⟩
theorem k_type {x : Nat} {σ : St} {P : PoT} {hs : Nat → PoT} {c : Nat} {T : Nat → Int32} {n u v : Nat} (K : KL x σ P hs c T n) (R : Rm x σ u v) (z : Int) (z1 : -2147483648 ≤ z) (z2 : z ≤ 2147483647) :
    ∃ r τ, f_X10_type σ x (zI z) = some (r, τ) ∧ Rm x τ u v ∧ GK x σ τ ∧
      ((¬ (0 ≤ z ∧ z ≤ 127) → r = -2 ∧ KL x τ P hs c T n) ∧
       (0 ≤ z ∧ z ≤ 127 → n = 80 → r = -4 ∧ KL x τ P hs c T n) ∧
       (0 ≤ z ∧ z ≤ 127 → n < 80 → r = zI (n + 1 : Nat) ∧ KL x τ P hs c (upL T n (zI z)) (n + 1))) := by
  obtain ⟨k, kL, ho⟩ := id K
  obtain ⟨k1, k2, k3, k4, k5, k6, k7, k8⟩ := id k
  have hN := k1.2.2.2.2.2.2
  obtain ⟨c1, c2, c3, c4, c5, c6, c7, c8⟩ := id k2
  have e1 : (zI z < 0) ↔ z < 0 := zlt (b := 0) z1 z2 (by omega) (by omega)
  have e2 : (zI z ≤ 127) ↔ z ≤ 127 := zle (b := 127) z1 z2 (by omega) (by omega)
  rw [f_X10_type]
  by_cases q1 : z < 0
  · rw [if_pos (e1.mpr q1)]
    exact ⟨_, _, rfl, R, GK_refl _ _, fun _ => ⟨rfl, K⟩, fun y => by omega, fun y => by omega⟩
  · rw [if_neg (fun y => q1 (e1.mp y))]
    by_cases q2 : z ≤ 127
    · rw [if_pos (e2.mpr q2), k1.2.1, dn_k c2, bnd, c6]
      by_cases q3 : n < 80
      · obtain ⟨m, rfl⟩ : ∃ m : Nat, z = m := ⟨z.toNat, by omega⟩
        have l80 : zI (n : Int) < 80 := (zN_lt (b := 80) (by omega) (by omega)).mpr q3
        have e8 : ((zI (m : Int)).toInt8.toInt32) = zI m := by
          have h8 : ∀ c, c < 128 → ((zI ((c : Nat) : Int)).toInt8.toInt32) = zI c := by decide
          exact h8 m (by omega)
        have g : GZ (fun f a => f = 257 ∧ a = x + 1) (fun a => a = x + 2) (fun _ => False) σ (stI (stA σ (x + 2) n (zI m)) 257 (x + 1) (zI ((n + 1 : Nat) : Int))) := GZ_stI (ok := fun f a => f = 257 ∧ a = x + 1) (okA := fun a => a = x + 2) (okB := fun _ => False) (GZ_stA (GZ_refl _ _ _ _) (x + 2) n _ rfl) 257 (x + 1) _ ⟨rfl, rfl⟩
        have ap : f_X8_append σ (x + 1) (zI m) = some (stI (stA σ (x + 2) n (zI m)) 257 (x + 1) (zI ((n + 1 : Nat) : Int))) := by
          have k257 : hpI (stA σ (x + 2) n (zI m)) 257 (x + 1) = zI n := c6
          rw [f_X8_append, c6, if_neg (zN_lt0 _ (by omega)), c3, dn_eq c4, bnd, c5, nI_z, if_neg (fun y => by have := (zN_le (by omega) (by omega)).mp y; omega), ix_l _ _ q3 (by omega), bnd, i8 m (by omega), show x + 1 + 1 = x + 2 from rfl, k257, zN_add1]
        obtain ⟨m1, m2, m3⟩ := k_text (T' := upL T n (zI m)) (n' := n + 1) K R g (SZ_refl _) ⟨by omega, c2, c3, c4, c5, hI_e, fun j hj => by
          show hpA (stA σ (x + 2) n (zI m)) (x + 1 + 1) j = _
          rw [hAw]
          show _ = if j = n then zI (m : Int) else T j
          by_cases y : j = n
          · rw [if_pos ⟨rfl, y⟩, if_pos y]
          · rw [if_neg (fun h => y h.2), if_neg y]; exact c7 j (by omega), fun j hj => by
          show ∃ c : Nat, c < 128 ∧ (if j = n then zI (m : Int) else T j) = zI c
          by_cases y : j = n
          · rw [if_pos y]; exact ⟨m, by omega, rfl⟩
          · rw [if_neg y]; exact c8 j (by omega)⟩
        rw [if_pos l80, ap, bnd, dn_eq m1.1.1.1, bnd, m1.1.1.2.1, dn_k m1.1.2.1.2.1, bnd, m1.1.2.1.2.2.2.2.2.1]
        exact ⟨_, _, rfl, m2, m3, fun y => absurd ⟨by omega, q2⟩ y, fun _ y => by omega, fun _ _ => ⟨rfl, m1⟩⟩
      · have l80 : ¬ zI (n : Int) < 80 := fun y => q3 ((zN_lt (b := 80) (by omega) (by omega)).mp y)
        rw [if_neg l80]
        exact ⟨_, _, rfl, R, GK_refl _ _, fun y => absurd ⟨by omega, q2⟩ y, fun _ _ => ⟨rfl, K⟩, fun _ y => absurd y q3⟩
    · rw [if_neg (fun y => q2 (e2.mp y))]
      exact ⟨_, _, rfl, R, GK_refl _ _, fun _ => ⟨rfl, K⟩, fun y => by omega, fun y => by omega⟩
theorem k_fault {x : Nat} {σ : St} {P : PoT} {hs : Nat → PoT} {c : Nat} {T : Nat → Int32} {n : Nat} (K : KI x σ P hs c T n) (b : Bool) : f_X10_fault σ x (if b = true then 1 else 0) = some (zI (if b = true then SFl T n else Flt T n)) := by
  obtain ⟨k1, k2, k3, k4, k5, k6, k7, k8⟩ := K
  rw [f_X10_fault]
  cases b
  · rw [if_pos (show (if false = true then (1 : Int32) else 0) = 0 from rfl), k1.2.1, dn_k k2.2.1, bnd, c_lineFault k2, bnd]; rfl
  · rw [if_neg (show ¬ (if true = true then (1 : Int32) else 0) = 0 by decide), k1.2.1, dn_k k2.2.1, bnd, c_shapeFault k2, bnd]; rfl


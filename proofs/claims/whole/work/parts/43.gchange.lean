/-- line p is dropped -/
def dropP (P : PoT) (p : Nat) : PoT := (fun i => if i < p then P.1 i else P.1 (i + 1), P.2.1 - 1, P.2.2)
/-- line a is moved to b -/
def mvP (P : PoT) (a b : Nat) : PoT := insP (dropP P a) b (P.1 a)
theorem okP_put {P : PoT} (ho : okP P) {p : Nat} {l : LnT} (hl : okL l) : okP (putL P p l) := by
  refine ⟨ho.1, fun k hk => ?_, ho.2.2⟩
  show okL (if k = p then l else P.1 k)
  split
  · exact hl
  · exact ho.2.1 k hk
theorem okP_drop {P : PoT} (ho : okP P) {p : Nat} (hp : p < P.2.1) : okP (dropP P p) := by
  have h24 := ho.1
  refine ⟨by show P.2.1 - 1 ≤ 24; omega, fun k hk => ?_, ho.2.2⟩
  have hk' : k < P.2.1 - 1 := hk
  show okL (if k < p then P.1 k else P.1 (k + 1))
  split
  · exact ho.2.1 k (by omega)
  · exact ho.2.1 (k + 1) (by omega)
theorem okP_mv {P : PoT} (ho : okP P) {a b : Nat} (ha : a < P.2.1) (hb : b < P.2.1) : okP (mvP P a b) := by
  have h24 := ho.1
  exact okP_ins (okP_drop ho ha) (by show P.2.1 - 1 < 24; omega) (by show b ≤ P.2.1 - 1; omega) (ho.2.1 a ha)
theorem mvP_n {P : PoT} {a b : Nat} (ha : a < P.2.1) : (mvP P a b).2.1 = P.2.1 := by show P.2.1 - 1 + 1 = P.2.1; omega
theorem g_isLine {M : MS} {P : PoT} (hp : PM M P) (ho : okP P) (z : Int) (z1 : -2147483648 ≤ z) (z2 : z ≤ 2147483647) : g_X11_isLine M (zI z) = some (if 0 ≤ z ∧ z < P.2.1 then 1 else 0) := by
  have h24 := ho.1
  have h40 : ix (2040 : Int32) 2046 = some 2040 := rfl
  have e1 : zI (P.2.1 : Int) - 1 = zI ((P.2.1 : Int) - 1) := by rw [show (1 : Int32) = zI 1 from rfl, zI_sub]
  rw [g_X11_isLine, h40, bnd, PM_n hp, e1, g_in]
  have e : (0 ≤ zI z ∧ zI z ≤ zI ((P.2.1 : Int) - 1)) ↔ (0 ≤ z ∧ z < P.2.1) := by
    rw [show (0 : Int32) = zI 0 from rfl, zle (by omega) (by omega) (by omega) (by omega), zle (by omega) (by omega) (by omega) (by omega)]; omega
  by_cases q : 0 ≤ z ∧ z < P.2.1
  · rw [if_pos (e.mpr q), if_pos q]; rfl
  · rw [if_neg (fun x => q (e.mp x)), if_neg q]; rfl
/-- the reference's text and past are those of M -/
def FT (M N : MS) : Prop := (∀ j, mA N 1 j = mA M 1 j) ∧ (∀ j, mA N 2 j = mA M 2 j) ∧ mF N 2 = mF M 2 ∧ mF N 4 = mF M 4
theorem MI_of {M N : MS} {P' : PoT} {hs : Nat → PoT} {c : Nat} {T : Nat → Int32} {n : Nat} (hh : HM M hs c) (ht : MT M T n) (g : FT M N) (hp : PM N P') (ho : okP P') : MI N P' hs c T n :=
  ⟨hp, ho, HM_c hh g.1 g.2.2.1, MT_c ht g.2.1 g.2.2.2⟩
theorem g_replace {M : MS} {P : PoT} {hs : Nat → PoT} {c : Nat} {T : Nat → Int32} {n : Nat} (h : MI M P hs c T n) (z : Int) (z1 : -2147483648 ≤ z) (z2 : z ≤ 2147483647) :
    ∃ r N, g_X11_replace M (zI z) = some (r, N) ∧
      ((¬ (0 ≤ z ∧ z < P.2.1) → r = -2 ∧ MI N P hs c T n) ∧
       (0 ≤ z ∧ z < P.2.1 → Flt T n ≠ -1 → r = zI (-2000 - Flt T n) ∧ MI N P hs c T n) ∧
       (0 ≤ z ∧ z < P.2.1 → Flt T n = -1 → r = zI (nCnt (P.1 z.toNat)) ∧ MI N (putL P z.toNat (lnT T n)) (hsK hs c P) (cK c) T n)) := by
  obtain ⟨hp, ho, hh, ht⟩ := id h
  have h24 := ho.1
  have hn := ht.1
  rw [g_X11_replace, g_isLine hp ho z z1 z2, bnd]
  by_cases q : 0 ≤ z ∧ z < P.2.1
  · rw [if_pos q, if_pos (by decide)]
    obtain ⟨p', L', r1, r2⟩ := g_readsLine ht
    rw [r1, bnd, rd_6]
    have hR := MI_rd h (zI p') (zI (Flt T n)) L'
    by_cases f : Flt T n = -1
    · rw [if_pos ((m1_Flt hn).mpr f)]
      obtain ⟨N1, k1, k2, k3, k4, k5⟩ := g_keeps hR.1 ho hR.2.2.1
      obtain ⟨p, rfl⟩ : ∃ p : Nat, z = p := ⟨z.toNat, by omega⟩
      have hpn : p < P.2.1 := by omega
      have hP1 : PM N1 P := PM_c hR.1 (fun j => k3 0 j (by decide))
      have hok := lnT_ok hn f
      have hL : LiE (fun j => mA N1 3 j) 0 (lnT T n) := by
        refine LiE_cp (A := L') (x := 0) (LiE_read hn (r2 f)) hok.1 (fun j hj => ?_)
        show mA N1 3 (0 + j) = L' (0 + j)
        rw [k3 3 _ (by decide), rd_A3]
      have e1 : g_X11_of N1 (zI p) 1 = some (zI (nCnt (P.1 p))) := by
        rw [show (1 : Int32) = zI ((1 : Nat) : Int) from rfl, g_of (by omega) (by omega), (PM_l hP1 hpn).2.1]
      rw [k1, bnd, e1, bnd, g_lays (by omega), bnd]
      refine ⟨_, _, rfl, fun x => absurd q x, fun _ x => absurd f x, fun _ _ => ⟨rfl, ?_⟩⟩
      refine MI_of k2 (MT_c ht (fun j => by rw [k3 2 _ (by decide), rd_A2]) (by rw [k4 4 (by decide), rd_4])) ⟨fun j => by rw [cpA_A, if_neg (by omega)], fun j => by rw [cpA_A, if_neg (by omega)], rfl, rfl⟩ (PM_put hP1 ho (by omega) hok.1 hL) (okP_put ho hok)
    · rw [if_neg (fun x => f ((m1_Flt hn).mp x))]
      refine ⟨_, _, rfl, fun x => absurd q x, fun _ _ => ⟨?_, hR⟩, fun _ x => absurd x f⟩
      rw [show (-2000 : Int32) = zI (-2000) from rfl, zI_sub]
  · rw [if_neg q, if_neg (by decide)]
    exact ⟨_, _, rfl, fun _ => ⟨rfl, h⟩, fun x => absurd x q, fun x => absurd x q⟩
/-- dropping: lines p .. are copied one down -/
theorem g_drp {f : Nat → LnT} {p n : Nat} (hn : n < 24) (hf : ∀ i, i ≤ n → nLen (f i) ≤ 80) : ∀ (d v : Nat) (M : MS) (k : Nat), v + d = n → p ≤ v → (∀ i, i < p → LiA M i (f i)) → (∀ i, p ≤ i → i < v → LiA M i (f (i + 1))) → (∀ i, v < i → i ≤ n → LiA M i (f i)) → mA M 0 2040 = zI n → d < k → ∃ N, LGX11_drops_14 k (zI v) M = some N ∧ (∀ i, i < p → LiA N i (f i)) ∧ (∀ i, p ≤ i → i < n → LiA N i (f (i + 1))) ∧ FLn M N := by
  intro d
  have h40 : ix (2040 : Int32) 2046 = some 2040 := rfl
  induction d with
  | zero =>
    intro v M k h1 h2 h3 h4 h5 h6 h7
    obtain ⟨k, rfl⟩ : ∃ k', k = k' + 1 := ⟨k - 1, by omega⟩
    have e : v = n := by omega
    subst e
    exact ⟨M, by rw [LGX11_drops_14, h40, bnd, h6, if_pos ((zN_le (by omega) (by omega)).mpr (by omega))], h3, h4, FLn_refl M⟩
  | succ d ih =>
    intro v M k h1 h2 h3 h4 h5 h6 h7
    obtain ⟨k, rfl⟩ : ∃ k', k = k' + 1 := ⟨k - 1, by omega⟩
    obtain ⟨N, n1, n2, n3, n4⟩ := ih (v + 1) (cpA M 0 (85 * v) 0 (85 * (v + 1)) 85) k (by omega) (by omega) (fun i hi => LiA_cp (h3 i hi) (hf i (by omega)) (by omega)) (fun i h8 h9 => by
      by_cases q : i = v
      · subst q; exact LiA_to (h5 (i + 1) (by omega) (by omega)) (hf (i + 1) (by omega))
      · exact LiA_cp (h4 i h8 (by omega)) (hf (i + 1) (by omega)) q) (fun i h8 h9 => LiA_cp (h5 i (by omega) h9) (hf i h9) (by omega)) (by rw [cpA_A, if_neg (by omega)]; exact h6) (by omega)
    refine ⟨N, ?_, n2, n3, FLn_trans (FLn_cp (by omega)) n4⟩
    rw [LGX11_drops_14, h40, bnd, h6, if_neg (fun x => by have := (zN_le (by omega) (by omega)).mp x; omega), zN_add1, g_copies (by omega) (by omega) (by omega), bnd, n1]
theorem g_remove {M : MS} {P : PoT} {hs : Nat → PoT} {c : Nat} {T : Nat → Int32} {n : Nat} (h : MI M P hs c T n) (z : Int) (z1 : -2147483648 ≤ z) (z2 : z ≤ 2147483647) :
    ∃ r N, g_X11_remove M (zI z) = some (r, N) ∧
      ((¬ (0 ≤ z ∧ z < P.2.1) → r = -2 ∧ MI N P hs c T n) ∧
       (0 ≤ z ∧ z < P.2.1 → r = zI (P.2.1 - 1 : Nat) ∧ MI N (dropP P z.toNat) (hsK hs c P) (cK c) T n)) := by
  obtain ⟨hp, ho, hh, ht⟩ := id h
  have h24 := ho.1
  have hn := ht.1
  have h40 : ix (2040 : Int32) 2046 = some 2040 := rfl
  rw [g_X11_remove, g_isLine hp ho z z1 z2, bnd]
  by_cases q : 0 ≤ z ∧ z < P.2.1
  · rw [if_pos q, if_pos (by decide)]
    obtain ⟨N1, k1, k2, k3, k4, k5⟩ := g_keeps hp ho hh
    obtain ⟨p, rfl⟩ : ∃ p : Nat, z = p := ⟨z.toNat, by omega⟩
    have hpn : p < P.2.1 := by omega
    have hP1 : PM N1 P := PM_c hp (fun j => k3 0 j (by decide))
    have up : ∀ i, i < P.2.1 → LiA (eA N1 0 2040 (zI ((P.2.1 - 1 : Nat) : Int))) i (P.1 i) := fun i hi => LiE_cp (PE_li hP1 hi) (ho.2.1 i hi).1 (fun j hj => by rw [mA_eA, if_neg (by omega)])
    obtain ⟨N2, i1, i2, i3, i4⟩ := g_drp (f := P.1) (p := p) (n := P.2.1 - 1) (by omega) (fun i hi => (ho.2.1 i (by omega)).1) (P.2.1 - 1 - p) p (eA N1 0 2040 (zI ((P.2.1 - 1 : Nat) : Int))) FU (by omega) (Nat.le_refl _) (fun i hi => up i (by omega)) (fun i h1 h2 => by omega) (fun i h1 h2 => up i (by omega)) (by rw [mA_eA, if_pos ⟨rfl, rfl⟩]) (by simp only [FU]; omega)
    have c40 : mA N2 0 2040 = zI ((P.2.1 - 1 : Nat) : Int) := by rw [i4.1 _ (by omega), mA_eA, if_pos ⟨rfl, rfl⟩]
    rw [k1, bnd, g_X11_drops, h40, bnd, bnd, PM_n hP1, zN_sub1 (by omega), show ((p : Nat) : Int) = (p : Int) from rfl, i1, bnd, bnd, bnd, c40]
    refine ⟨_, _, rfl, fun x => absurd q x, fun _ => ⟨rfl, ?_⟩⟩
    refine MI_of k2 (MT_c ht (fun j => k3 2 _ (by decide)) (k4 4 (by decide))) ⟨fun j => by rw [i4.2.1 1 _ (by decide), mA_eA, if_neg (by omega)], fun j => by rw [i4.2.1 2 _ (by decide), mA_eA, if_neg (by omega)], by rw [i4.2.2.1, mF_eA], by rw [i4.2.2.1, mF_eA]⟩ (PE_of (fun i hi => ?_) c40 (fun i hi => ?_)) (okP_drop ho hpn)
    · have hi' : i < P.2.1 - 1 := hi
      show LiE _ _ (if i < p then P.1 i else P.1 (i + 1))
      by_cases a : i < p
      · rw [if_pos a]; exact i2 i a
      · rw [if_neg a]; exact i3 i (by omega) hi'
    · rw [i4.1 _ (by omega), mA_eA, if_neg (by omega)]; exact PM_s hP1 hi
  · rw [if_neg q, if_neg (by decide)]
    exact ⟨_, _, rfl, fun _ => ⟨rfl, h⟩, fun x => absurd x q⟩

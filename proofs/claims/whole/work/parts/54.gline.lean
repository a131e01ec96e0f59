theorem g_type {M : MS} {P : PoT} {hs : Nat → PoT} {c : Nat} {T : Nat → Int32} {n : Nat} (h : MI M P hs c T n) (z : Int) (z1 : -2147483648 ≤ z) (z2 : z ≤ 2147483647) :
    ∃ r N, g_X11_type M (zI z) = some (r, N) ∧
      ((¬ (0 ≤ z ∧ z ≤ 127) → r = -2 ∧ MI N P hs c T n) ∧
       (0 ≤ z ∧ z ≤ 127 → n = 80 → r = -4 ∧ MI N P hs c T n) ∧
       (0 ≤ z ∧ z ≤ 127 → n < 80 → r = zI (n + 1 : Nat) ∧ MI N P hs c (upL T n (zI z)) (n + 1))) := by
  obtain ⟨hp, ho, hh, ht⟩ := id h
  obtain ⟨t1, t2, t3, t4⟩ := id ht
  have e : g_X11_in M (zI z) 0 127 = some (if 0 ≤ z ∧ z ≤ 127 then 1 else 0) := z_in z 127 z1 z2 (by decide) M
  rw [g_X11_type, e, bnd]
  by_cases q : 0 ≤ z ∧ z ≤ 127
  · obtain ⟨m, rfl⟩ : ∃ m : Nat, z = m := ⟨z.toNat, by omega⟩
    rw [if_pos q, if_pos (by decide), t2]
    by_cases q2 : n = 80
    · rw [if_neg (fun x => x (by rw [q2]; rfl))]
      exact ⟨_, _, rfl, fun y => absurd q y, fun _ _ => ⟨rfl, h⟩, fun _ y => by omega⟩
    · have n80 : ¬ zI (n : Int) = 80 := fun x => q2 ((zN_eq (b := 80) (by omega) (by omega)).mp x)
      rw [if_pos n80, ix_l _ _ (by omega) (by omega), bnd]
      refine ⟨_, _, rfl, fun y => absurd q y, fun _ y => absurd y q2, fun _ _ => ⟨?_, ?_⟩⟩
      · rw [mF_eF, if_pos rfl, mF_eA, t2, zN_add1]
      · refine ⟨PM_c hp (fun j => by rw [mA_eF, mA_eA, if_neg (by omega)]), ho, HM_c hh (fun j => by rw [mA_eF, mA_eA, if_neg (by omega)]) (by rw [mF_eF, if_neg (by decide), mF_eA]), by omega, ?_, fun j hj => ?_, fun j hj => ?_⟩
        · rw [mF_eF, if_pos rfl, mF_eA, t2, zN_add1]
        · show mA (eF (eA M 2 n (zI m)) 4 _) 2 j = if j = n then zI (m : Int) else T j
          rw [mA_eF, mA_eA]
          by_cases y : j = n
          · rw [if_pos ⟨rfl, y⟩, if_pos y]
          · rw [if_neg (fun x => y x.2), if_neg y]; exact t3 j (by omega)
        · show ∃ c : Nat, c < 128 ∧ (if j = n then zI (m : Int) else T j) = zI c
          by_cases y : j = n
          · rw [if_pos y]; exact ⟨m, by omega, rfl⟩
          · rw [if_neg y]; exact t4 j (by omega)
  · rw [if_neg q, if_neg (by decide)]
    exact ⟨_, _, rfl, fun _ => ⟨rfl, h⟩, fun y => absurd y q, fun y => absurd y q⟩
theorem g_clearT {M : MS} {P : PoT} {hs : Nat → PoT} {c : Nat} {T : Nat → Int32} {n : Nat} (h : MI M P hs c T n) : ∃ N, g_X11_clear M = some (zI n, N) ∧ MI N P hs c T 0 := by
  obtain ⟨hp, ho, hh, ht⟩ := id h
  refine ⟨eF M 4 0, by rw [g_X11_clear, ht.2.1], PM_c hp (fun _ => rfl), ho, HM_c hh (fun _ => rfl) (by rw [mF_eF, if_neg (by decide)]), Nat.zero_le _, by rw [mF_eF, if_pos rfl]; rfl, fun j hj => absurd hj (Nat.not_lt_zero j), fun j hj => absurd hj (Nat.not_lt_zero j)⟩
theorem g_shapeR {M : MS} {P : PoT} {hs : Nat → PoT} {c : Nat} {T : Nat → Int32} {n : Nat} (h : MI M P hs c T n) : ∃ N, g_X11_readsShape M = some N ∧ MI N P hs c T n ∧ mF N 6 = zI (SFl T n) ∧ mF N 8 = zI (Shp T n) := by
  obtain ⟨hp, ho, hh, ht⟩ := id h
  obtain ⟨p', r1⟩ := g_readsShape ht
  refine ⟨_, r1, ?_, rd_6 _ _ _ _, ?_⟩
  · exact MI_rd (M := eF M 8 (zI (Shp T n))) ⟨PM_c hp (fun _ => rfl), ho, HM_c hh (fun _ => rfl) (by rw [mF_eF, if_neg (by decide)]), MT_c ht (fun _ => rfl) (by rw [mF_eF, if_neg (by decide)])⟩ _ _ _
  · rfl
theorem g_faultR {M : MS} {P : PoT} {hs : Nat → PoT} {c : Nat} {T : Nat → Int32} {n : Nat} (h : MI M P hs c T n) (b : Bool) : ∃ N, g_X11_fault M (if b = true then 1 else 0) = some (zI (if b = true then SFl T n else Flt T n), N) ∧ MI N P hs c T n := by
  rw [g_X11_fault]
  cases b
  · obtain ⟨p', L', r1, r2⟩ := g_readsLine h.2.2.2
    rw [if_pos (show (if false = true then (1 : Int32) else 0) = 0 from rfl), r1, bnd, bnd, rd_6]
    exact ⟨_, rfl, MI_rd h _ _ _⟩
  · obtain ⟨N, a1, a2, a3, a4⟩ := g_shapeR h
    rw [if_neg (show ¬ (if true = true then (1 : Int32) else 0) = 0 by decide), a1, bnd, bnd, a3]
    exact ⟨_, rfl, a2⟩
theorem g_no1 {M : MS} {P : PoT} (hp : PM M P) (ho : okP P) {m : Nat} (hm : m ≤ P.2.1) : ∀ (d i f : Nat), i + d = m → d < f → LGX11_numberOf_4 f M (zI ((m : Int) - 1)) (zI (nuP P i)) (zI i) = some (zI (nuP P m)) := by
  intro d
  have h24 := ho.1
  induction d with
  | zero =>
    intro i f hi hf
    obtain ⟨f, rfl⟩ : ∃ f1, f = f1 + 1 := ⟨f - 1, by omega⟩
    have e : i = m := by omega
    subst e
    rw [LGX11_numberOf_4, if_pos ((zlt (by omega) (by omega) (by omega) (by omega)).mpr (by omega))]
  | succ d ih =>
    intro i f hi hf
    obtain ⟨f, rfl⟩ : ∃ f1, f = f1 + 1 := ⟨f - 1, by omega⟩
    have ex : (if (if lnS P i = true then (1 : Int32) else 0) = 0 then some (1 : Int32) else some 0) = some (zI ((if lnS P i = true then 0 else 1 : Nat) : Int)) := by
      cases lnS P i <;> rfl
    rw [LGX11_numberOf_4, if_neg (fun x => by have := (zlt (by omega) (by omega) (by omega) (by omega)).mp x; omega), g_leans hp ho (by omega), bnd, ex, bnd, zN_add1, zN_add]
    have e2 : nuP P i + (if lnS P i = true then 0 else 1) = nuP P (i + 1) := by
      rw [nuP]; cases lnS P i <;> rfl
    rw [e2]
    exact ih (i + 1) f (by omega) (by omega)
theorem g_numOf {M : MS} {P : PoT} (hp : PM M P) (ho : okP P) {m : Nat} (hm : m ≤ P.2.1) : g_X11_numberOf M (zI ((m : Int) - 1)) = some (zI (nuP P m)) := by
  have h24 := ho.1
  have e := g_no1 hp ho hm m 0 FU (by omega) (by simp only [FU]; omega)
  have e' : LGX11_numberOf_4 FU M (zI ((m : Int) - 1)) 0 0 = some (zI (nuP P m)) := e
  rw [g_X11_numberOf, e', bnd]
theorem g_numOf1 {M : MS} {P : PoT} (hp : PM M P) (ho : okP P) {k : Nat} (hk : k < P.2.1) : g_X11_numberOf M (zI k) = some (zI (nuP P (k + 1))) := by
  have e := g_numOf hp ho (m := k + 1) hk
  rw [show ((k + 1 : Nat) : Int) - 1 = (k : Int) by omega] at e
  exact e
/-- a line's properties -/
def linV (P : PoT) (W k w : Nat) : Nat := if w = 0 then nLt (P.1 k) else if w = 1 then nCnt (P.1 k) else if w = 2 then nSt (P.1 k) else if w = 3 then nHf (P.1 k) else if w = 4 then (if lnS P k = true then 1 else 0) else if w = 5 then nLa (P.1 k) else if w = 6 then nuP P (k + 1) else if w = 7 then (layA P W k).1 else if w = 8 then lrS P W k else szO P k
theorem g_linePart {N : MS} {P : PoT} {W : Nat} (hp : PM N P) (ho : okP P) (hd : DM N P W P.2.1) {k w : Nat} (hk : k < P.2.1) (hw : w < 10) : g_X11_linePart N (zI k) (zI w) = some (zI (linV P W k w)) := by
  have h24 := ho.1
  obtain ⟨l0, l1, l2, l3, l4, -⟩ := PM_l hp hk
  obtain ⟨o1, o2, o3, o4, o5, o6, o7⟩ := ho.2.1 k hk
  obtain ⟨d1, d2, d3⟩ := hd.2.1 k hk
  have hlt := (o4.2.1 o2).2
  have of0 : g_X11_of N (zI k) 0 = some (zI (nLen (P.1 k))) := by
    rw [show (0 : Int32) = zI ((0 : Nat) : Int) from rfl, g_of (by omega) (by omega), Nat.add_zero, l0]
  have of1 : g_X11_of N (zI k) 1 = some (zI (nCnt (P.1 k))) := by
    rw [show (1 : Int32) = zI ((1 : Nat) : Int) from rfl, g_of (by omega) (by omega), l1]
  have of2 : g_X11_of N (zI k) 2 = some (zI (nSt (P.1 k))) := by
    rw [show (2 : Int32) = zI ((2 : Nat) : Int) from rfl, g_of (by omega) (by omega), l2]
  have of3 : g_X11_of N (zI k) 3 = some (zI (nHf (P.1 k))) := by
    rw [show (3 : Int32) = zI ((3 : Nat) : Int) from rfl, g_of (by omega) (by omega), l3]
  have of4 : g_X11_of N (zI k) 4 = some (zI (nLa (P.1 k))) := by
    rw [show (4 : Int32) = zI ((4 : Nat) : Int) from rfl, g_of (by omega) (by omega), l4]
  have ik : ix (zI (k : Int)) 24 = some k := ix_l _ _ (by omega) (by omega)
  rw [g_X11_linePart]
  rcases (show w = 0 ∨ w = 1 ∨ w = 2 ∨ w = 3 ∨ w = 4 ∨ w = 5 ∨ w = 6 ∨ w = 7 ∨ w = 8 ∨ w = 9 by omega) with rfl | rfl | rfl | rfl | rfl | rfl | rfl | rfl | rfl | rfl
  · rw [if_pos (by decide), g_X11_letters, of0, bnd, of1, bnd, zI_sub, show (1 : Int32) = zI 1 from rfl, zI_add, bnd]
    unfold linV; rw [if_pos rfl]; congr 2; omega
  · rw [if_neg (by decide), if_pos (by decide), of1, bnd]; rfl
  · rw [if_neg (by decide), if_neg (by decide), if_pos (by decide), of2, bnd]; rfl
  · rw [if_neg (by decide), if_neg (by decide), if_neg (by decide), if_pos (by decide), of3, bnd]; rfl
  · rw [if_neg (by decide), if_neg (by decide), if_neg (by decide), if_neg (by decide), if_pos (by decide), g_leans hp ho hk, bnd]
    unfold linV
    cases lnS P k <;> rfl
  · rw [if_neg (by decide), if_neg (by decide), if_neg (by decide), if_neg (by decide), if_neg (by decide), if_pos (by decide), of4, bnd]; rfl
  · rw [if_neg (by decide), if_neg (by decide), if_neg (by decide), if_neg (by decide), if_neg (by decide), if_neg (by decide), if_pos (by decide), g_numOf1 hp ho hk, bnd]; rfl
  · rw [if_neg (by decide), if_neg (by decide), if_neg (by decide), if_neg (by decide), if_neg (by decide), if_neg (by decide), if_neg (by decide), if_pos (by decide), ik, bnd, d2]; rfl
  · rw [if_neg (by decide), if_neg (by decide), if_neg (by decide), if_neg (by decide), if_neg (by decide), if_neg (by decide), if_neg (by decide), if_neg (by decide), if_pos (by decide), ik, bnd, d3]; rfl
  · rw [if_neg (by decide), if_neg (by decide), if_neg (by decide), if_neg (by decide), if_neg (by decide), if_neg (by decide), if_neg (by decide), if_neg (by decide), if_neg (by decide), ik, bnd, d1]; rfl
/-- the reference's answers after drawing -/
def ND (N : MS) (P : PoT) : Prop := PM N P ∧ okP P ∧ DQ N P (P.2.2 0) (P.2.2 1) P.2.1
theorem g_drawn {M : MS} {P : PoT} {hs : Nat → PoT} {c : Nat} {T : Nat → Int32} {n : Nat} (h : MI M P hs c T n) : ∃ N, g_X11_draws M = some N ∧ ND N P ∧ MI N P hs c T n ∧ FA M N := by
  obtain ⟨N, a1, a2, a3⟩ := g_draws h.2.1 h.1
  have m := MI_FA h a3
  exact ⟨N, a1, ⟨m.1, h.2.1, a2⟩, m, a3⟩
theorem g_lineR {M : MS} {P : PoT} {hs : Nat → PoT} {c : Nat} {T : Nat → Int32} {n : Nat} (h : MI M P hs c T n) (z w : Int) (z1 : -2147483648 ≤ z) (z2 : z ≤ 2147483647) (w1 : -2147483648 ≤ w) (w2 : w ≤ 2147483647) :
    ∃ N, g_X11_line M (zI z) (zI w) = some (if (0 ≤ z ∧ z < P.2.1) ∧ 0 ≤ w ∧ w ≤ 9 then zI (linV P (P.2.2 0) z.toNat w.toNat) else -2, N) ∧ MI N P hs c T n := by
  rw [g_X11_line, g_isLine h.1 h.2.1 z z1 z2, bnd]
  by_cases q : 0 ≤ z ∧ z < P.2.1
  · have e : g_X11_in M (zI w) 0 9 = some (if 0 ≤ w ∧ w ≤ 9 then 1 else 0) := z_in w 9 w1 w2 (by decide) M
    rw [if_pos q, if_neg (by decide), e, bnd]
    by_cases q2 : 0 ≤ w ∧ w ≤ 9
    · obtain ⟨k, rfl⟩ : ∃ k : Nat, z = k := ⟨z.toNat, by omega⟩
      obtain ⟨m, rfl⟩ : ∃ m : Nat, w = m := ⟨w.toNat, by omega⟩
      obtain ⟨N, a1, a2, a3, -⟩ := g_drawn h
      rw [if_pos q2, if_pos (by decide), a1, bnd, g_linePart a2.1 a2.2.1 a2.2.2.1 (by omega) (by omega), bnd, if_pos ⟨q, q2⟩]
      exact ⟨_, rfl, a3⟩
    · rw [if_neg q2, if_neg (by decide), if_neg (fun x => q2 x.2)]
      exact ⟨_, rfl, h⟩
  · rw [if_neg q, if_pos rfl, if_neg (fun x => q x.1)]
    exact ⟨_, rfl, h⟩
theorem g_letterR {M : MS} {P : PoT} {hs : Nat → PoT} {c : Nat} {T : Nat → Int32} {n : Nat} (h : MI M P hs c T n) (z w : Int) (z1 : -2147483648 ≤ z) (z2 : z ≤ 2147483647) (w1 : -2147483648 ≤ w) (w2 : w ≤ 2147483647) :
    g_X11_letter M (zI z) (zI w) = some (if (0 ≤ z ∧ z < P.2.1) ∧ 0 ≤ w then (if w < nLen (P.1 z.toNat) then nB (P.1 z.toNat) w.toNat else -1) else -2) := by
  have h24 := h.2.1.1
  rw [g_X11_letter, g_isLine h.1 h.2.1 z z1 z2, bnd]
  by_cases q : 0 ≤ z ∧ z < P.2.1
  · obtain ⟨k, rfl⟩ : ∃ k : Nat, z = k := ⟨z.toNat, by omega⟩
    have hk : k < P.2.1 := by omega
    obtain ⟨l0, l1, l2, l3, l4, l5⟩ := PM_l h.1 hk
    have hl := (h.2.1.2.1 k hk).1
    have e0 : (0 ≤ zI w) ↔ 0 ≤ w := zle (a := 0) (by omega) (by omega) w1 w2
    have of0 : g_X11_of M (zI k) 0 = some (zI (nLen (P.1 k))) := by
      rw [show (0 : Int32) = zI ((0 : Nat) : Int) from rfl, g_of (by omega) (by omega), Nat.add_zero, l0]
    have e1 : (zI (nLen (P.1 k) : Int) ≤ zI w) ↔ (nLen (P.1 k) : Int) ≤ w := zle (by omega) (by omega) w1 w2
    rw [if_pos q, if_neg (by decide)]
    by_cases q2 : 0 ≤ w
    · have eR : ∀ A B : Int32, (if (0 ≤ (k : Int) ∧ (k : Int) < P.2.1) ∧ 0 ≤ w then A else B) = A := fun A B => if_pos ⟨q, q2⟩
      rw [eR, if_pos (e0.mpr q2), of0, bnd]
      by_cases q3 : w < nLen (P.1 k)
      · obtain ⟨m, rfl⟩ : ∃ m : Nat, w = m := ⟨w.toNat, by omega⟩
        have e2 : ¬ (zI (nLen (P.1 k) : Int) ≤ zI (m : Int)) := fun x => by have := e1.mp x; omega
        have e3 : (if (m : Int) < nLen (P.1 ((k : Int)).toNat) then nB (P.1 ((k : Int)).toNat) ((m : Int)).toNat else -1) = nB (P.1 k) m := if_pos q3
        rw [if_neg e2, zN_5, g_of (by omega) (by omega), bnd, ← Nat.add_assoc, l5 m (by omega), e3]
      · have e3 : (if w < nLen (P.1 ((k : Int)).toNat) then nB (P.1 ((k : Int)).toNat) w.toNat else -1) = -1 := if_neg q3
        rw [if_pos (e1.mpr (by omega)), e3]
    · rw [if_neg (fun x => q2 (e0.mp x)), if_neg (fun x => q2 x.2)]
  · rw [if_neg q, if_pos rfl, if_neg (fun x => q x.1)]

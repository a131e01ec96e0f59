theorem wordS_mono (W c1 n fr : Nat) (rs : RS) : rs.1 ≤ (wordS W c1 n fr rs).1 := by
  rw [wordS]
  split
  · exact Nat.le_refl _
  · refine Nat.le_trans ?_ (cutS_mono W c1 16 n _).1
    split
    · exact Nat.le_succ _
    · exact Nat.le_refl _
theorem wordsS_mono (W c1 : Nat) (E : Nat → Nat) : ∀ d j rs, rs.1 ≤ (wordsS W c1 E d j rs).1 := by
  intro d
  induction d with
  | zero => intro j rs; exact Nat.le_refl _
  | succ d ih => intro j rs; exact Nat.le_trans (wordS_mono W c1 (E j) (stW E j) rs) (ih (j + 1) _)
theorem c_word {Q : Nat → Prop} {C S t W c1 n fr a : Nat} {rs : RS} {τ : St} {sh : Nat → Nat} (hc1 : c1 + 6 ≤ W) (hW : W ≤ 60) (hn : n ≤ 100) (h : LI Q C S τ t) (hr : RoL τ t rs sh) (h0 : 0 < rs.1) (hb : hpB τ (t + 1) (rs.1 - 1) = some a) (h4 : rCo (lastR rs) + 6 ≤ W) (h5 : rLn (lastR rs) ≤ 100) (h7 : rLe (lastR rs) ≤ 100) (h6 : (wordS W c1 n fr rs).1 ≤ 480) :
    ∃ a2 τ2, (if (hpI τ 198 a) ≤ 0 then
        (if (hpI τ 198 a) ≤ 0 then
          some (some a, τ)
        else
          (dn τ 1 (some t)).bind fun a14 =>
          (f_X1_addRow τ a14 (hpI τ 192 a) (zI c1) (zI fr)).bind fun q16 =>
          some (q16.1, q16.2)).bind fun (x12 : (Option Nat) × St) =>
        (dn x12.2 1 (some t)).bind fun a18 =>
        (f_X1_putWord x12.2 a18 (zI n) x12.1 (zI c1) (zI W)).bind fun q20 =>
        some (q20.1, q20.2)
      else
        (f_X6_end τ a).bind fun q22 =>
        if zI W < ((q22 + 1) + zI n) then
          (if (hpI τ 198 a) ≤ 0 then
            some (some a, τ)
          else
            (dn τ 1 (some t)).bind fun a27 =>
            (f_X1_addRow τ a27 (hpI τ 192 a) (zI c1) (zI fr)).bind fun q29 =>
            some (q29.1, q29.2)).bind fun (x25 : (Option Nat) × St) =>
          (dn x25.2 1 (some t)).bind fun a31 =>
          (f_X1_putWord x25.2 a31 (zI n) x25.1 (zI c1) (zI W)).bind fun q33 =>
          some (q33.1, q33.2)
        else
          some (some a, (stI τ 198 a ((hpI τ 198 a) + (1 + zI n))))) = some (some a2, τ2) ∧ hpB τ2 (t + 1) ((wordS W c1 n fr rs).1 - 1) = some a2 ∧ LI Q C S τ2 t ∧ RoL τ2 t (wordS W c1 n fr rs) sh ∧ FZ (okR Q t) (oB t 1) τ τ2 ∧ 0 < (wordS W c1 n fr rs).1 ∧ rCo (lastR (wordS W c1 n fr rs)) + 6 ≤ W ∧ rLn (lastR (wordS W c1 n fr rs)) = rLn (lastR rs) ∧ rLe (lastR (wordS W c1 n fr rs)) ≤ 100 := by
  have h480 := hr.2.1
  have hk := RoL_k h (by omega) hb
  obtain ⟨b1, b2, b3, b4, b5, b6, b7⟩ := RoL_last hr h0 hb
  have ez : (hpI τ 198 a ≤ 0) ↔ rLe (lastR rs) = 0 := by
    rw [b5, show (0 : Int32) = zI ((0 : Nat) : Int) from rfl, zN_le (by omega) (by omega)]; omega
  by_cases q0 : rLe (lastR rs) = 0
  · have e : wordS W c1 n fr rs = putS W c1 n rs := by rw [wordS, if_neg (by omega), if_neg (by omega)]
    rw [e] at h6 ⊢
    obtain ⟨a2, τ2, p1, p2, p3, p4, p5, p6, p7, p8, p9⟩ := c_putWord hc1 hW (show n ≤ 200 by omega) h hr h0 hb h4 h5 h6
    refine ⟨a2, τ2, ?_, p2, p3, p4, p5, p6, p7, p8, by omega⟩
    rw [if_pos (ez.mpr q0), if_pos (ez.mpr q0), bnd, dn_eq h.2.2.1, bnd, p1, bnd]
  · have e1 : hpI τ 196 a + hpI τ 198 a + 1 + zI n = zI ((rCo (lastR rs) + rLe (lastR rs) + 1 + n : Nat) : Int) := by rw [b3, b5, zN_add, zN_add1, zN_add]
    have e2 : (zI (W : Int) < hpI τ 196 a + hpI τ 198 a + 1 + zI n) ↔ W < rCo (lastR rs) + rLe (lastR rs) + 1 + n := by rw [e1, zN_lt (by omega) (by omega)]
    by_cases q : rCo (lastR rs) + rLe (lastR rs) + 1 + n ≤ W
    · have e : wordS W c1 n fr rs = setL rs (rLe (lastR rs) + 1 + n) := by rw [wordS, if_pos ⟨by omega, q⟩]
      have eL : lastR (setL rs (rLe (lastR rs) + 1 + n)) = wLe (lastR rs) (rLe (lastR rs) + 1 + n) := lastR_set _ _
      rw [e]
      obtain ⟨m1, m2, m3⟩ := RoL_len h hr h0 hb (rLe (lastR rs) + 1 + n)
      refine ⟨a, stI τ 198 a (zI ((rLe (lastR rs) + 1 + n : Nat) : Int)), ?_, hb, m1, m2, m3, h0, by rw [eL]; exact h4, by rw [eL]; rfl, by rw [eL]; show rLe (lastR rs) + 1 + n ≤ 100; omega⟩
      rw [if_neg (fun x => q0 (ez.mp x)), f_X6_end, bnd, if_neg (fun x => by have := e2.mp x; omega), b5, show (1 : Int32) + zI n = zI ((1 + n : Nat) : Int) from zI_add 1 n, zN_add, Nat.add_assoc]
    · have e : wordS W c1 n fr rs = putS W c1 n (nxR rs c1 fr 0) := by rw [wordS, if_neg (fun x => q x.2), if_pos (by omega)]
      have hm := wordS_mono W c1 n fr rs
      rw [e] at h6 hm ⊢
      have hm2 : rs.1 + 1 ≤ (putS W c1 n (nxR rs c1 fr 0)).1 := (cutS_mono W c1 16 n (nxR rs c1 fr 0)).1
      obtain ⟨a1, τ1, n1, n2, n3, n4, n5⟩ := c_nxRow (co := c1) (fr := fr) h hr h0 (by omega) h5
      have eL : lastR (nxR rs c1 fr 0) = (rLn (lastR rs), rIx (lastR rs) + 1, c1, fr, 0, 0) := by rw [nxR, lastR_add]
      obtain ⟨a2, τ2, p1, p2, p3, p4, p5, p6, p7, p8, p9⟩ := c_putWord hc1 hW (show n ≤ 200 by omega) n3 n4 (Nat.succ_pos _) n2 (by rw [eL]; exact hc1) (by rw [eL]; exact h5) h6
      refine ⟨a2, τ2, ?_, p2, p3, p4, FZ_trans n5 p5, p6, p7, p8.trans (by rw [eL]; rfl), by omega⟩
      rw [if_neg (fun x => q0 (ez.mp x)), f_X6_end, bnd, if_pos (e2.mpr (by omega)), if_neg (fun x => q0 (ez.mp x)), dn_eq h.2.2.1, bnd, b1, n1, bnd, bnd, dn_eq n3.2.2.1, bnd, p1, bnd]
theorem CW_FZ {ok : Nat → Nat → Prop} {okB : Nat → Prop} {σ τ : St} {w len cnt lt : Nat} {B : Nat → Int32} {E : Nat → Nat} (h : CW σ w len cnt lt B E) (g : FZ ok okB σ τ) (hw : w + 2 < hpN σ) (hk : ∀ f a, 256 ≤ f → ¬ ok f a) : CW τ w len cnt lt B E := by
  obtain ⟨h1, h2, h3, h4, h5, h6, h7, h8, h9, h10, h11, h12⟩ := h
  obtain ⟨a1, a2, a3, a4, a5, a6, a7, a8⟩ := g.2.1 w (by omega)
  obtain ⟨b1, b2, b3, b4, b5, b6, b7, b8⟩ := g.2.1 (w + 1) (by omega)
  obtain ⟨c1, c2, c3, c4, c5, c6, c7, c8⟩ := g.2.1 (w + 2) (by omega)
  exact ⟨a1.trans h1, (a3 _).trans h2, b1.trans h3, b2.trans h4, (a3 _).trans h5, c1.trans h6, c2.trans h7, (a8 290 (hk _ _ (by decide))).trans h8, (a8 291 (hk _ _ (by decide))).trans h9, (a8 292 (hk _ _ (by decide))).trans h10, fun j hj => (b5 j).trans (h11 j hj), fun j hj => (c5 j).trans (h12 j hj)⟩
theorem c_lengthOf {σ : St} {w len cnt lt j : Nat} {B : Nat → Int32} {E : Nat → Nat} (h : CW σ w len cnt lt B E) (hj : j < 40) : f_X9_lengthOf σ w (zI j) = some (zI (E j)) := by
  obtain ⟨h1, h2, h3, h4, h5, h6, h7, h8, h9, h10, h11, h12⟩ := h
  rw [f_X9_lengthOf, h5, f_X10_element, if_neg (by simp), if_neg (zN_lt0 _ (by omega)), dnA_eq h6, bnd, h7, nI_z, if_pos ((zN_lt (by omega) (by omega)).mpr hj), ix_l _ _ hj (by omega), bnd, h12 j hj, bnd]
theorem c_words' {Q : Nat → Prop} {C S t W c1 w len cnt lt : Nat} {B : Nat → Int32} {E : Nat → Nat} {sh : Nat → Nat} (hc1 : c1 + 6 ≤ W) (hW : W ≤ 60) (hE : ∀ j, j < cnt → E j ≤ 100) (hcnt : cnt ≤ 40) : ∀ (d j : Nat) (rs : RS) (a : Nat) (τ : St) (f : Nat), j + d = cnt → d < f → CW τ w len cnt lt B E → w + 2 < hpN τ → LI Q C S τ t → RoL τ t rs sh → 0 < rs.1 → hpB τ (t + 1) (rs.1 - 1) = some a → rCo (lastR rs) + 6 ≤ W → rLn (lastR rs) ≤ 100 → rLe (lastR rs) ≤ 100 → (wordsS W c1 E d j rs).1 ≤ 480 →
    ∃ τ', LX1_putWords_9 f t (some w) (zI c1) (zI W) (some a) (zI (stW E j)) (zI j) τ = some τ' ∧ LI Q C S τ' t ∧ RoL τ' t (wordsS W c1 E d j rs) sh ∧ FZ (okR Q t) (oB t 1) τ τ' := by
  intro d
  induction d with
  | zero =>
    intro j rs a τ f h1 h2 hw hwN h hr h0 hb h4 h5 h7 h6
    obtain ⟨f, rfl⟩ : ∃ f', f = f' + 1 := ⟨f - 1, by omega⟩
    refine ⟨τ, ?_, h, hr, FZ_refl _ _ _⟩
    rw [LX1_putWords_9, dn_eq hw.1, bnd, hw.2.2.2.2.2.2.2.2.1, if_pos ((zN_le (by omega) (by omega)).mpr (by omega))]
  | succ d ih =>
    intro j rs a τ f h1 h2 hw hwN h hr h0 hb h4 h5 h7 h6
    obtain ⟨f, rfl⟩ : ∃ f', f = f' + 1 := ⟨f - 1, by omega⟩
    have h480 := hr.2.1
    have hk := RoL_k h (by omega) hb
    have hm : (wordS W c1 (E j) (stW E j) rs).1 ≤ 480 := Nat.le_trans (wordsS_mono W c1 E d (j + 1) _) h6
    obtain ⟨a2, τ2, p1, p2, p3, p4, p5, p6, p7, p8, p9⟩ := c_word hc1 hW (hE j (by omega)) h hr h0 hb h4 h5 h7 hm
    obtain ⟨τ', r1, r2, r3, r4⟩ := ih (j + 1) _ a2 τ2 f (by omega) (by omega) (CW_FZ hw p5 hwN (fun f a hf x => by unfold okR at x; omega)) (Nat.lt_of_lt_of_le hwN p5.1) p3 p4 p6 p2 p7 (by omega) p9 h6
    refine ⟨τ', ?_, r2, r3, FZ_trans p5 r4⟩
    rw [LX1_putWords_9, dn_eq hw.1, bnd, hw.2.2.2.2.2.2.2.2.1, if_neg (fun x => by have := (zN_le (by omega) (by omega)).mp x; omega), c_lengthOf hw (by omega), bnd, dn_eq hk.1, bnd, p1, bnd, zN_add1, zN_add1, zN_add]
    exact r1


theorem RoL_last {σ : St} {t a : Nat} {rs : RS} {sh : Nat → Nat} (hr : RoL σ t rs sh) (h0 : 0 < rs.1) (hb : hpB σ (t + 1) (rs.1 - 1) = some a) : RW σ a (lastR rs) (sh (rs.1 - 1)) := by
  obtain ⟨b, b1, b2⟩ := hr.2.2.1 (rs.1 - 1) (by omega)
  rw [hb] at b1; cases b1; exact b2
theorem RoL_k {Q : Nat → Prop} {C S : Nat} {σ : St} {t a i : Nat} (h : LI Q C S σ t) (hi : i < 480) (hb : hpB σ (t + 1) i = some a) : hpK σ a = 6 ∧ a < hpN σ ∧ Q a := h.2.2.2.1.2.2.2.1 i a hi hb
/-- the last row's length is written -/
theorem RoL_len {Q : Nat → Prop} {C S : Nat} {σ : St} {t a : Nat} {rs : RS} {sh : Nat → Nat} (h : LI Q C S σ t) (hr : RoL σ t rs sh) (h0 : 0 < rs.1) (hb : hpB σ (t + 1) (rs.1 - 1) = some a) (v : Nat) : LI Q C S (stI σ 198 a (zI v)) t ∧ RoL (stI σ 198 a (zI v)) t (setL rs v) sh ∧ FZ (okR Q t) (oB t 1) σ (stI σ 198 a (zI v)) := by
  have h480 := hr.2.1
  have hk := RoL_k h (by omega) hb
  refine ⟨LI_stI h _ _ _, ⟨hr.1, hr.2.1, fun i hi => ?_, hr.2.2.2⟩, FZ_stI (FZ_refl _ _ _) 198 a _ (Or.inr ⟨by decide, by decide, hk.2.2⟩)⟩
  have hi' : i < rs.1 := hi
  obtain ⟨b, b1, b2⟩ := hr.2.2.1 i hi'
  by_cases q : i = rs.1 - 1
  · subst q
    rw [hb] at b1; cases b1
    have e : (setL rs v).2 (rs.1 - 1) = wLe (rs.2 (rs.1 - 1)) v := if_pos rfl
    refine ⟨a, hb, ?_⟩
    rw [e]
    obtain ⟨c1, c2, c3, c4, c5, c6, c7⟩ := b2
    refine ⟨?_, ?_, ?_, ?_, ?_, ?_, ?_⟩ <;> simp only [hIw, Nat.reduceEqDiff, false_and, true_and, if_true, if_false] <;> first | assumption | rfl
  · have nb : b ≠ a := fun x => by subst x; have := h.2.2.2.1.2.2.2.2 i (rs.1 - 1) b (by omega) (by omega) b1 hb; omega
    have e : (setL rs v).2 i = rs.2 i := if_neg q
    refine ⟨b, b1, ?_⟩
    rw [e]
    obtain ⟨c1, c2, c3, c4, c5, c6, c7⟩ := b2
    refine ⟨?_, ?_, ?_, ?_, ?_, ?_, ?_⟩ <;> simp only [hIw, Nat.reduceEqDiff, nb, and_false, false_and, if_false] <;> assumption
/-- the new row begins within a word; or shows a number -/
theorem RoL_wi {Q : Nat → Prop} {C S : Nat} {σ : St} {t a ln pt co fr : Nat} {rs : RS} {sh : Nat → Nat} (h : LI Q C S σ t) (hr : RoL σ t (addR rs (ln, pt, co, fr, 0, 0)) sh) (hb : hpB σ (t + 1) rs.1 = some a) : LI Q C S (stI σ 200 a 1) t ∧ RoL (stI σ 200 a 1) t (addR rs (ln, pt, co, fr, 0, 1)) sh ∧ FZ (okR Q t) (oB t 1) σ (stI σ 200 a 1) := by
  have h480 : rs.1 + 1 ≤ 480 := hr.2.1
  have hk := RoL_k h (by omega) hb
  refine ⟨LI_stI h _ _ _, ⟨hr.1, hr.2.1, fun i hi => ?_, hr.2.2.2⟩, FZ_stI (FZ_refl _ _ _) 200 a _ (Or.inr ⟨by decide, by decide, hk.2.2⟩)⟩
  have hi' : i < rs.1 + 1 := hi
  obtain ⟨b, b1, b2⟩ := hr.2.2.1 i hi'
  by_cases q : i = rs.1
  · subst q
    rw [hb] at b1; cases b1
    have e : (addR rs (ln, pt, co, fr, 0, 1)).2 rs.1 = (ln, pt, co, fr, 0, 1) := if_pos rfl
    have e2 : (addR rs (ln, pt, co, fr, 0, 0)).2 rs.1 = (ln, pt, co, fr, 0, 0) := if_pos rfl
    refine ⟨a, hb, ?_⟩
    rw [e2] at b2
    rw [e]
    obtain ⟨c1, c2, c3, c4, c5, c6, c7⟩ := b2
    refine ⟨?_, ?_, ?_, ?_, ?_, ?_, ?_⟩ <;> simp only [hIw, Nat.reduceEqDiff, false_and, true_and, if_true, if_false] <;> first | assumption | rfl
  · have nb : b ≠ a := fun x => by subst x; have := h.2.2.2.1.2.2.2.2 i rs.1 b (by omega) (by omega) b1 hb; omega
    have e : (addR rs (ln, pt, co, fr, 0, 1)).2 i = rs.2 i := if_neg q
    have e2 : (addR rs (ln, pt, co, fr, 0, 0)).2 i = rs.2 i := if_neg q
    refine ⟨b, b1, ?_⟩
    rw [e2] at b2
    rw [e]
    obtain ⟨c1, c2, c3, c4, c5, c6, c7⟩ := b2
    refine ⟨?_, ?_, ?_, ?_, ?_, ?_, ?_⟩ <;> simp only [hIw, Nat.reduceEqDiff, nb, and_false, false_and, if_false] <;> assumption
def upN (sh : Nat → Nat) (i v : Nat) : Nat → Nat := fun j => if j = i then v else sh j
theorem RoL_sh {Q : Nat → Prop} {C S : Nat} {σ : St} {t a : Nat} {rs : RS} {r : RT} {sh : Nat → Nat} (h : LI Q C S σ t) (hr : RoL σ t (addR rs r) sh) (hb : hpB σ (t + 1) rs.1 = some a) (v : Nat) : LI Q C S (stI σ 199 a (zI v)) t ∧ RoL (stI σ 199 a (zI v)) t (addR rs r) (upN sh rs.1 v) ∧ FZ (okR Q t) (oB t 1) σ (stI σ 199 a (zI v)) := by
  have h480 : rs.1 + 1 ≤ 480 := hr.2.1
  have hk := RoL_k h (by omega) hb
  refine ⟨LI_stI h _ _ _, ⟨hr.1, hr.2.1, fun i hi => ?_, fun i hi => ?_⟩, FZ_stI (FZ_refl _ _ _) 199 a _ (Or.inr ⟨by decide, by decide, hk.2.2⟩)⟩
  · have hi' : i < rs.1 + 1 := hi
    obtain ⟨b, b1, b2⟩ := hr.2.2.1 i hi'
    by_cases q : i = rs.1
    · subst q
      rw [hb] at b1; cases b1
      refine ⟨a, hb, ?_⟩
      obtain ⟨c1, c2, c3, c4, c5, c6, c7⟩ := b2
      refine ⟨?_, ?_, ?_, ?_, ?_, ?_, ?_⟩ <;> simp only [hIw, Nat.reduceEqDiff, false_and, true_and, if_true, if_false, upN] <;> assumption
    · have nb : b ≠ a := fun x => by subst x; have := h.2.2.2.1.2.2.2.2 i rs.1 b (by omega) (by omega) b1 hb; omega
      refine ⟨b, b1, ?_⟩
      obtain ⟨c1, c2, c3, c4, c5, c6, c7⟩ := b2
      refine ⟨?_, ?_, ?_, ?_, ?_, ?_, ?_⟩ <;> simp only [hIw, Nat.reduceEqDiff, nb, and_false, false_and, if_false, upN, q] <;> assumption
  · have hi' : rs.1 + 1 ≤ i := hi
    have e : upN sh rs.1 v i = sh i := if_neg (by omega)
    rw [e]; exact hr.2.2.2 i hi
/-- the next row of the same line -/
theorem c_nxRow {Q : Nat → Prop} {C S : Nat} {σ : St} {t co fr : Nat} {rs : RS} {sh : Nat → Nat} (h : LI Q C S σ t) (hr : RoL σ t rs sh) (h0 : 0 < rs.1) (hn : rs.1 < 480) (hl : rLn (lastR rs) ≤ 100) :
    ∃ a τ, f_X1_addRow σ t (zI (rLn (lastR rs))) (zI co) (zI fr) = some (some a, τ) ∧ hpB τ (t + 1) rs.1 = some a ∧ LI Q C S τ t ∧ RoL τ t (nxR rs co fr 0) sh ∧ FZ (okR Q t) (oB t 1) σ τ := by
  obtain ⟨a, τ, g1, g2, g3, g4, g5⟩ := c_addRow (ln := rLn (lastR rs)) (co := co) (fr := fr) h hr hn (fun _ => hl) hl
  rw [if_pos ⟨h0, rfl⟩] at g4
  exact ⟨a, τ, g1, g2, g3, g4, g5⟩
theorem cutS_mono (W c1 : Nat) : ∀ d l rs, rs.1 ≤ (cutS W c1 d l rs).2.1 ∧ (cutS W c1 d l rs).1 ≤ l := by
  intro d
  induction d with
  | zero => intro l rs; exact ⟨Nat.le_refl _, Nat.le_refl _⟩
  | succ d ih =>
    intro l rs
    rw [cutS]
    split
    · obtain ⟨i1, i2⟩ := ih (l - (W - rCo (lastR rs))) (nxR (setL rs (W - rCo (lastR rs))) c1 (rFr (lastR rs) + (W - rCo (lastR rs))) 1)
      refine ⟨Nat.le_trans ?_ i1, by omega⟩
      show rs.1 ≤ rs.1 + 1; omega
    · exact ⟨Nat.le_refl _, Nat.le_refl _⟩
theorem c_cut {Q : Nat → Prop} {C S t W c1 : Nat} {sh : Nat → Nat} (hc1 : c1 + 6 ≤ W) (hW : W ≤ 60) : ∀ (d v l : Nat) (rs : RS) (a : Nat) (τ : St) (f : Nat), v + d = 16 → d < f → l ≤ 200 → LI Q C S τ t → RoL τ t rs sh → 0 < rs.1 → hpB τ (t + 1) (rs.1 - 1) = some a → rCo (lastR rs) + 6 ≤ W → rLn (lastR rs) ≤ 100 → (cutS W c1 d l rs).2.1 ≤ 480 →
    ∃ a' τ', LX1_putWord_9 f t (zI c1) (zI W) (some a) (zI l) (zI v) τ = some (some a', zI (((cutS W c1 d l rs).1 : Nat) : Int), τ') ∧ hpB τ' (t + 1) ((cutS W c1 d l rs).2.1 - 1) = some a' ∧ LI Q C S τ' t ∧ RoL τ' t (cutS W c1 d l rs).2 sh ∧ FZ (okR Q t) (oB t 1) τ τ' ∧ 0 < (cutS W c1 d l rs).2.1 ∧ rCo (lastR (cutS W c1 d l rs).2) + 6 ≤ W ∧ rLn (lastR (cutS W c1 d l rs).2) = rLn (lastR rs) := by
  intro d
  induction d with
  | zero =>
    intro v l rs a τ f h1 h2 h3 h hr h0 hb h4 h5 h6
    obtain ⟨f, rfl⟩ : ∃ f', f = f' + 1 := ⟨f - 1, by omega⟩
    refine ⟨a, τ, ?_, hb, h, hr, FZ_refl _ _ _, h0, h4, rfl⟩
    rw [LX1_putWord_9, if_pos (show (16 : Int32) ≤ zI v from (zN_le (a := 16) (by omega) (by omega)).mpr (by omega))]; rfl
  | succ d ih =>
    intro v l rs a τ f h1 h2 h3 h hr h0 hb h4 h5 h6
    obtain ⟨f, rfl⟩ : ∃ f', f = f' + 1 := ⟨f - 1, by omega⟩
    have h480 := hr.2.1
    have hk := RoL_k h (by omega) hb
    obtain ⟨b1, b2, b3, b4, b5, b6, b7⟩ := RoL_last hr h0 hb
    have hv : ¬ (16 : Int32) ≤ zI v := fun x => by have := (zN_le (a := 16) (by omega) (by omega)).mp x; omega
    by_cases q : W - rCo (lastR rs) < l
    · have e : cutS W c1 (d + 1) l rs = cutS W c1 d (l - (W - rCo (lastR rs))) (nxR (setL rs (W - rCo (lastR rs))) c1 (rFr (lastR rs) + (W - rCo (lastR rs))) 1) := by rw [cutS, if_pos q]
      rw [e] at h6 ⊢
      have hm := (cutS_mono W c1 d (l - (W - rCo (lastR rs))) (nxR (setL rs (W - rCo (lastR rs))) c1 (rFr (lastR rs) + (W - rCo (lastR rs))) 1)).1
      have hm1 : rs.1 + 1 ≤ 480 := Nat.le_trans hm h6
      obtain ⟨m1, m2, m3⟩ := RoL_len h hr h0 hb (W - rCo (lastR rs))
      have eL : lastR (setL rs (W - rCo (lastR rs))) = wLe (lastR rs) (W - rCo (lastR rs)) := lastR_set _ _
      have hl1 : rLn (lastR (setL rs (W - rCo (lastR rs)))) = rLn (lastR rs) := by rw [eL]; rfl
      obtain ⟨a2, τ2, n1, n2, n3, n4, n5⟩ := c_nxRow (co := c1) (fr := rFr (lastR rs) + (W - rCo (lastR rs))) m1 m2 h0 (show rs.1 < 480 by omega) (by rw [hl1]; exact h5)
      rw [hl1] at n1
      obtain ⟨w1, w2, w3⟩ := RoL_wi n3 n4 n2
      have k2 := RoL_k n3 (show rs.1 < 480 by omega) n2
      have eN : (nxR (setL rs (W - rCo (lastR rs))) c1 (rFr (lastR rs) + (W - rCo (lastR rs))) 1).1 = rs.1 + 1 := rfl
      have eX : lastR (nxR (setL rs (W - rCo (lastR rs))) c1 (rFr (lastR rs) + (W - rCo (lastR rs))) 1) = (rLn (lastR rs), rIx (lastR rs) + 1, c1, rFr (lastR rs) + (W - rCo (lastR rs)), 0, 1) := by rw [nxR, lastR_add, eL]; rfl
      obtain ⟨a', τ', p1, p2, p3, p4, p5, p6, p7, p8⟩ := ih (v + 1) (l - (W - rCo (lastR rs))) (nxR (setL rs (W - rCo (lastR rs))) c1 (rFr (lastR rs) + (W - rCo (lastR rs))) 1) a2 (stI τ2 200 a2 1) f (by omega) (by omega) (by omega) w1 w2 (by rw [eN]; omega) n2 (by rw [eX]; exact hc1) (by rw [eX]; exact h5) h6
      refine ⟨a', τ', ?_, p2, p3, p4, FZ_trans m3 (FZ_trans n5 (FZ_trans w3 p5)), p6, p7, p8.trans (by rw [eX]; rfl)⟩
      have s1 : hpI (stI τ 198 a (zI ((W - rCo (lastR rs) : Nat) : Int))) 192 a = zI (rLn (lastR rs)) := b1
      have s2 : hpI (stI τ 198 a (zI ((W - rCo (lastR rs) : Nat) : Int))) 197 a = zI (rFr (lastR rs)) := b4
      have s3 : hpI (stI τ 198 a (zI ((W - rCo (lastR rs) : Nat) : Int))) 198 a = zI ((W - rCo (lastR rs) : Nat) : Int) := if_pos ⟨rfl, rfl⟩
      rw [LX1_putWord_9, if_neg hv, dn_eq hk.1, bnd, b3, zN_sub (by omega), if_neg (fun x => by have := (zN_le (by omega) (by omega)).mp x; omega), dn_eq m1.2.2.1, bnd, s1, s2, s3, zN_add, n1, bnd, dn_eq k2.1, bnd, zN_sub (by omega), zN_add1]
      exact p1
    · have e : cutS W c1 (d + 1) l rs = (l, rs) := by rw [cutS, if_neg q]
      rw [e]
      refine ⟨a, τ, ?_, hb, h, hr, FZ_refl _ _ _, h0, h4, rfl⟩
      rw [LX1_putWord_9, if_neg hv, dn_eq hk.1, bnd, b3, zN_sub (by omega), if_pos ((zN_le (by omega) (by omega)).mpr (by omega))]
theorem c_putWord {Q : Nat → Prop} {C S t W c1 n a : Nat} {rs : RS} {σ : St} {sh : Nat → Nat} (hc1 : c1 + 6 ≤ W) (hW : W ≤ 60) (hn : n ≤ 200) (h : LI Q C S σ t) (hr : RoL σ t rs sh) (h0 : 0 < rs.1) (hb : hpB σ (t + 1) (rs.1 - 1) = some a) (h4 : rCo (lastR rs) + 6 ≤ W) (h5 : rLn (lastR rs) ≤ 100) (h6 : (putS W c1 n rs).1 ≤ 480) :
    ∃ a' τ', f_X1_putWord σ t (zI n) (some a) (zI c1) (zI W) = some (some a', τ') ∧ hpB τ' (t + 1) ((putS W c1 n rs).1 - 1) = some a' ∧ LI Q C S τ' t ∧ RoL τ' t (putS W c1 n rs) sh ∧ FZ (okR Q t) (oB t 1) σ τ' ∧ 0 < (putS W c1 n rs).1 ∧ rCo (lastR (putS W c1 n rs)) + 6 ≤ W ∧ rLn (lastR (putS W c1 n rs)) = rLn (lastR rs) ∧ rLe (lastR (putS W c1 n rs)) ≤ n := by
  have hm := cutS_mono W c1 16 n rs
  obtain ⟨a', τ', p1, p2, p3, p4, p5, p6, p7, p8⟩ := c_cut (Q := Q) (C := C) (S := S) (sh := sh) hc1 hW 16 0 n rs a σ FU (by omega) (by simp only [FU]; omega) hn h hr h0 hb h4 h5 h6
  obtain ⟨m1, m2, m3⟩ := RoL_len p3 p4 p6 p2 (cutS W c1 16 n rs).1
  have hk := RoL_k p3 (by have := p4.2.1; omega) p2
  have eL : lastR (putS W c1 n rs) = wLe (lastR (cutS W c1 16 n rs).2) (cutS W c1 16 n rs).1 := lastR_set _ _
  refine ⟨a', stI τ' 198 a' (zI (((cutS W c1 16 n rs).1 : Nat) : Int)), ?_, p2, m1, m2, FZ_trans p5 m3, p6, by rw [eL]; exact p7, by rw [eL]; exact p8, by rw [eL]; exact hm.2⟩
  have p1' : LX1_putWord_9 FU t (zI c1) (zI W) (some a) (zI n) 0 σ = _ := p1
  rw [f_X1_putWord, p1', bnd, dn_eq hk.1, bnd]


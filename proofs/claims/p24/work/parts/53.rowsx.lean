/-- rows of a line follow one another in its bytes -/
def WO (g : Nat) (rs : RS) : Prop := (∀ i, g ≤ i → i + 1 < rs.1 → rFr (rs.2 i) + rLe (rs.2 i) ≤ rFr (lastR rs)) ∧ ∀ i, g ≤ i → i < rs.1 → rWi (rs.2 i) ≤ 1
theorem WO_set {g v : Nat} {rs : RS} (h : WO g rs) : WO g (setL rs v) := by
  obtain ⟨h1, h2⟩ := h
  have eL : rFr (lastR (setL rs v)) = rFr (lastR rs) := by rw [lastR_set]; rfl
  refine ⟨fun i hi hj => ?_, fun i hi hj => ?_⟩
  · have hj' : i + 1 < rs.1 := hj
    have e : (setL rs v).2 i = rs.2 i := if_neg (by omega)
    rw [e, eL]; exact h1 i hi hj'
  · show rWi (if i = rs.1 - 1 then wLe (rs.2 i) v else rs.2 i) ≤ 1
    split
    · exact h2 i hi hj
    · exact h2 i hi hj
theorem WO_nx {g c1 fr wi : Nat} {rs : RS} (h : WO g rs) (hg : g < rs.1) (hf : rFr (lastR rs) + rLe (lastR rs) ≤ fr) (hw : wi ≤ 1) : WO g (nxR rs c1 fr wi) := by
  obtain ⟨h1, h2⟩ := h
  have eL : rFr (lastR (nxR rs c1 fr wi)) = fr := by rw [nxR, lastR_add]; rfl
  refine ⟨fun i hi hj => ?_, fun i hi hj => ?_⟩
  · have hj' : i + 1 < rs.1 + 1 := hj
    have e : (nxR rs c1 fr wi).2 i = rs.2 i := if_neg (by omega)
    rw [e, eL]
    by_cases q : i + 1 < rs.1
    · have := h1 i hi q; omega
    · have e2 : rs.2 i = lastR rs := by rw [lastR, show rs.1 - 1 = i by omega]
      rw [e2]; exact hf
  · have hj' : i < rs.1 + 1 := hj
    show rWi (if i = rs.1 then _ else rs.2 i) ≤ 1
    by_cases q : i = rs.1
    · rw [if_pos q]; exact hw
    · rw [if_neg q]; exact h2 i hi (by omega)
theorem WO_cut {g W c1 : Nat} : ∀ d l rs, WO g rs → g < rs.1 → WO g (cutS W c1 d l rs).2 ∧ g < (cutS W c1 d l rs).2.1 := by
  intro d
  induction d with
  | zero => intro l rs h hg; exact ⟨h, hg⟩
  | succ d ih =>
    intro l rs h hg
    rw [cutS]
    split
    · have e1 : rFr (lastR (setL rs (W - rCo (lastR rs)))) + rLe (lastR (setL rs (W - rCo (lastR rs)))) = rFr (lastR rs) + (W - rCo (lastR rs)) := by rw [lastR_set]; rfl
      exact ih _ _ (WO_nx (WO_set h) hg (Nat.le_of_eq e1) (Nat.le_refl 1)) (Nat.lt_succ_of_lt hg)
    · exact ⟨h, hg⟩
theorem WO_word {k g W c1 n fr fp : Nat} {rs : RS} (h : WO g rs) (hg : g < rs.1) (hb : RB k W c1 rs fp fr) : WO g (wordS W c1 n fr rs) ∧ g < (wordS W c1 n fr rs).1 := by
  rw [wordS]
  split
  · exact ⟨WO_set h, hg⟩
  · have h2 : WO g (if 0 < rLe (lastR rs) then nxR rs c1 fr 0 else rs) ∧ g < (if 0 < rLe (lastR rs) then nxR rs c1 fr 0 else rs).1 := by
      split
      · refine ⟨WO_nx h hg ?_ (Nat.zero_le 1), Nat.lt_succ_of_lt hg⟩
        rcases hb.2.1 with x | x <;> omega
      · exact ⟨h, hg⟩
    obtain ⟨c1', c2⟩ := WO_cut (W := W) (c1 := c1) 16 n _ h2.1 h2.2
    exact ⟨WO_set c1', c2⟩
theorem WO_words {k g W c1 cnt : Nat} {E : Nat → Nat} (hE : ∀ j, j < cnt → 1 ≤ E j ∧ E j ≤ 80) : ∀ d j rs fp, j + d = cnt → WO g rs → g < rs.1 → RB k W c1 rs fp (stW E j) → WO g (wordsS W c1 E d j rs) ∧ g < (wordsS W c1 E d j rs).1 := by
  intro d
  induction d with
  | zero => intro j rs fp _ h hg _; exact ⟨h, hg⟩
  | succ d ih =>
    intro j rs fp hj h hg hb
    obtain ⟨e1, e2⟩ := hE j (by omega)
    obtain ⟨fp', c1', c2, c3⟩ := word_ok hb e1 e2
    obtain ⟨a, b⟩ := WO_word (n := E j) h hg hb
    exact ih (j + 1) _ fp' (by omega) a b c1'
/-- a line's rows: within its bytes, within its width -/
theorem layL_in {P : PoT} (ho : okP P) {W k : Nat} (hW : 12 ≤ W) (hW2 : W ≤ 60) (hk : k < P.2.1) (rs : RS) : ∀ i, rs.1 ≤ i → i < (layL P W k rs).1 → rFr ((layL P W k rs).2 i) + rLe ((layL P W k rs).2 i) ≤ nLen (P.1 k) ∧ rWi ((layL P W k rs).2 i) ≤ 1 := by
  obtain ⟨o1, o2, o3, o4, o5, o6, o7⟩ := ho.2.1 k hk
  have l1 := (o4.2.1 o2).1
  have eL : lastR (addR rs (k, 0, c0S P W k rs, 0, 0, 0)) = (k, 0, c0S P W k rs, 0, 0, 0) := lastR_add _ _
  have hc0 : c0S P W k rs + 6 ≤ W := by unfold c0S; omega
  have hrb : RB k W (c1S P W k) (addR rs (k, 0, c0S P W k rs, 0, 0, 0)) 0 (stW (nE (P.1 k)) 0) := by
    refine ⟨⟨?_, ?_, ?_, ?_, ?_, ?_⟩, Or.inl ⟨?_, ?_, ?_⟩, ?_⟩
    · show 0 < rs.1 + 1; omega
    · rw [eL]; exact hc0
    · unfold c1S; omega
    · rw [eL]; rfl
    · rw [eL]; show 8 * (0 / 2) ≤ 0; omega
    · rw [eL]; intro x; exact absurd x (by show ¬ 0 < 0; omega)
    · rw [eL]; rfl
    · rw [eL]; rfl
    · rw [eL]; rfl
    · rw [eL]; show c0S P W k rs + 0 ≤ _; omega
  have hE : ∀ j, j < nCnt (P.1 k) → 1 ≤ nE (P.1 k) j ∧ nE (P.1 k) j ≤ 80 := fun j hj => ⟨o4.2.2.1 j hj, by have := stW_m (nE (P.1 k)) hj; omega⟩
  have w0 : WO rs.1 (addR rs (k, 0, c0S P W k rs, 0, 0, 0)) := by
    refine ⟨fun i hi hj => ?_, fun i hi hj => ?_⟩
    · have hj' : i + 1 < rs.1 + 1 := hj
      omega
    · have hj' : i < rs.1 + 1 := hj
      have e : (addR rs (k, 0, c0S P W k rs, 0, 0, 0)).2 i = (k, 0, c0S P W k rs, 0, 0, 0) := if_pos (by omega)
      rw [e]; exact Nat.zero_le 1
  obtain ⟨wo, -⟩ := WO_words (g := rs.1) hE (nCnt (P.1 k)) 0 _ 0 (by omega) w0 (Nat.lt_succ_self _) hrb
  obtain ⟨fp, a1, a2, a3⟩ := layL_ok ho hW hW2 hk rs
  have ez : layL P W k rs = wordsS W (c1S P W k) (nE (P.1 k)) (nCnt (P.1 k)) 0 (addR rs (k, 0, c0S P W k rs, 0, 0, 0)) := rfl
  rw [← ez] at wo
  intro i hi hj
  refine ⟨?_, wo.2 i hi hj⟩
  have hl : rFr (lastR (layL P W k rs)) + rLe (lastR (layL P W k rs)) ≤ nLen (P.1 k) := by
    rcases a1.2.1 with x | x
    · exfalso
      obtain ⟨fp2, b1, b2, b3⟩ := words_ok (fst := rs.1) hE (nCnt (P.1 k)) 0 _ 0 (by omega) hrb (by rw [eL]; rfl) (fun x => by omega)
      rw [← ez] at b3; omega
    · omega
  by_cases q : i + 1 < (layL P W k rs).1
  · have := wo.1 i hi q; omega
  · have e2 : (layL P W k rs).2 i = lastR (layL P W k rs) := by rw [lastR, show (layL P W k rs).1 - 1 = i by omega]
    rw [e2]; exact hl
theorem lay_in {P : PoT} (ho : okP P) {W i : Nat} (hW : 12 ≤ W) (hW2 : W ≤ 60) (hi : i < (layA P W P.2.1).1) : rLn ((layA P W P.2.1).2 i) < P.2.1 ∧ rFr ((layA P W P.2.1).2 i) + rLe ((layA P W P.2.1).2 i) ≤ nLen (P.1 (rLn ((layA P W P.2.1).2 i))) ∧ rWi ((layA P W P.2.1).2 i) ≤ 1 := by
  obtain ⟨k, a, b, c⟩ := layA_in P W P.2.1 i hi
  have h1 := (layA_row P W a b c).1
  rw [h1]
  refine ⟨a, ?_⟩
  rw [layA_keep P W (show k + 1 ≤ P.2.1 by omega) c]
  exact layL_in ho hW hW2 a (layA P W k) i b c
/-- the width of each row -/
def WWd (W : Nat) (rs : RS) : Prop := ∀ i, i < rs.1 → rCo (rs.2 i) + rLe (rs.2 i) ≤ W ∧ rCo (rs.2 i) + 6 ≤ W
theorem WWd_set {W v : Nat} {rs : RS} (h : WWd W rs) (hv : rCo (lastR rs) + v ≤ W) : WWd W (setL rs v) := by
  intro i hi
  have hi' : i < rs.1 := hi
  show rCo (if i = rs.1 - 1 then wLe (rs.2 i) v else rs.2 i) + rLe (if i = rs.1 - 1 then wLe (rs.2 i) v else rs.2 i) ≤ W ∧ rCo (if i = rs.1 - 1 then wLe (rs.2 i) v else rs.2 i) + 6 ≤ W
  by_cases q : i = rs.1 - 1
  · rw [if_pos q]; subst q; exact ⟨hv, (h _ hi').2⟩
  · rw [if_neg q]; exact h i hi'
theorem WWd_nx {W c1 fr wi : Nat} {rs : RS} (h : WWd W rs) (hc : c1 + 6 ≤ W) : WWd W (nxR rs c1 fr wi) := by
  intro i hi
  have hi' : i < rs.1 + 1 := hi
  show rCo (if i = rs.1 then _ else rs.2 i) + rLe (if i = rs.1 then _ else rs.2 i) ≤ W ∧ rCo (if i = rs.1 then _ else rs.2 i) + 6 ≤ W
  by_cases q : i = rs.1
  · rw [if_pos q]; exact ⟨by show c1 + 0 ≤ W; omega, hc⟩
  · rw [if_neg q]; exact h i (by omega)
theorem WWd_cut {W c1 : Nat} (hc : c1 + 6 ≤ W) : ∀ d l rs, WWd W rs → 0 < rs.1 → WWd W (cutS W c1 d l rs).2 ∧ 0 < (cutS W c1 d l rs).2.1 := by
  intro d
  induction d with
  | zero => intro l rs h h0; exact ⟨h, h0⟩
  | succ d ih =>
    intro l rs h h0
    rw [cutS]
    split
    · have := h (rs.1 - 1) (by omega)
      exact ih _ _ (WWd_nx (WWd_set h (by show rCo (rs.2 (rs.1 - 1)) + (W - rCo (rs.2 (rs.1 - 1))) ≤ W; omega)) hc) (Nat.succ_pos _)
    · exact ⟨h, h0⟩
theorem WWd_word {k W c1 n fr fp : Nat} {rs : RS} (h : WWd W rs) (hb : RB k W c1 rs fp fr) (hn : 1 ≤ n) (hn2 : n ≤ 80) : WWd W (wordS W c1 n fr rs) := by
  obtain ⟨fp', d1, -, -⟩ := word_ok hb hn hn2
  have hw := d1.2.2
  have h0 := hb.1.1
  have hc := hb.1.2.2.1
  by_cases q : 0 < rLe (lastR rs) ∧ rCo (lastR rs) + rLe (lastR rs) + 1 + n ≤ W
  · rw [wordS, if_pos q]; exact WWd_set h (by omega)
  · have e : wordS W c1 n fr rs = putS W c1 n (if 0 < rLe (lastR rs) then nxR rs c1 fr 0 else rs) := by rw [wordS, if_neg q]
    rw [e] at hw ⊢
    have h2 : WWd W (if 0 < rLe (lastR rs) then nxR rs c1 fr 0 else rs) ∧ 0 < (if 0 < rLe (lastR rs) then nxR rs c1 fr 0 else rs).1 := by
      split
      · exact ⟨WWd_nx h hc, Nat.succ_pos _⟩
      · exact ⟨h, h0⟩
    obtain ⟨g1, g2⟩ := WWd_cut hc 16 n _ h2.1 h2.2
    refine WWd_set g1 ?_
    rw [putS, lastR_set] at hw
    exact hw
theorem WWd_words {k W c1 cnt : Nat} {E : Nat → Nat} (hE : ∀ j, j < cnt → 1 ≤ E j ∧ E j ≤ 80) : ∀ d j rs fp, j + d = cnt → WWd W rs → RB k W c1 rs fp (stW E j) → WWd W (wordsS W c1 E d j rs) := by
  intro d
  induction d with
  | zero => intro j rs fp _ h _; exact h
  | succ d ih =>
    intro j rs fp hj h hb
    obtain ⟨e1, e2⟩ := hE j (by omega)
    obtain ⟨fp', c1', c2, c3⟩ := word_ok hb e1 e2
    exact ih (j + 1) _ fp' (by omega) (WWd_word h hb e1 e2) c1'
theorem lay_wd {P : PoT} (ho : okP P) {W : Nat} (hW : 12 ≤ W) (hW2 : W ≤ 60) : ∀ k, k ≤ P.2.1 → WWd W (layA P W k)
  | 0, _ => fun i hi => absurd hi (Nat.not_lt_zero i)
  | k + 1, hk => by
    have ih := lay_wd ho hW hW2 k (by omega)
    obtain ⟨o1, o2, o3, o4, o5, o6, o7⟩ := ho.2.1 k (by omega)
    have l1 := (o4.2.1 o2).1
    generalize hrs : layA P W k = rs at ih
    have e1 : layA P W (k + 1) = layL P W k rs := by rw [← hrs]; rfl
    rw [e1]
    have eL : lastR (addR rs (k, 0, c0S P W k rs, 0, 0, 0)) = (k, 0, c0S P W k rs, 0, 0, 0) := lastR_add _ _
    have hc0 : c0S P W k rs + 6 ≤ W := by unfold c0S; omega
    have hrb : RB k W (c1S P W k) (addR rs (k, 0, c0S P W k rs, 0, 0, 0)) 0 (stW (nE (P.1 k)) 0) := by
      refine ⟨⟨?_, ?_, ?_, ?_, ?_, ?_⟩, Or.inl ⟨?_, ?_, ?_⟩, ?_⟩
      · show 0 < rs.1 + 1; omega
      · rw [eL]; exact hc0
      · unfold c1S; omega
      · rw [eL]; rfl
      · rw [eL]; show 8 * (0 / 2) ≤ 0; omega
      · rw [eL]; intro x; exact absurd x (by show ¬ 0 < 0; omega)
      · rw [eL]; rfl
      · rw [eL]; rfl
      · rw [eL]; rfl
      · rw [eL]; show c0S P W k rs + 0 ≤ _; omega
    have hE : ∀ j, j < nCnt (P.1 k) → 1 ≤ nE (P.1 k) j ∧ nE (P.1 k) j ≤ 80 := fun j hj => ⟨o4.2.2.1 j hj, by have := stW_m (nE (P.1 k)) hj; omega⟩
    refine WWd_words hE (nCnt (P.1 k)) 0 _ 0 (by omega) (fun i hi => ?_) hrb
    have hi' : i < rs.1 + 1 := hi
    by_cases q : i = rs.1
    · have e : (addR rs (k, 0, c0S P W k rs, 0, 0, 0)).2 i = (k, 0, c0S P W k rs, 0, 0, 0) := if_pos q
      rw [e]; exact ⟨by show c0S P W k rs + 0 ≤ W; omega, hc0⟩
    · have e : (addR rs (k, 0, c0S P W k rs, 0, 0, 0)).2 i = rs.2 i := if_neg q
      rw [e]; exact ih i (by omega)
/-- the number that a row shows -/
theorem shA_ok (P : PoT) (W : Nat) : ∀ n i, i < (layA P W n).1 → shA P W n i = if rIx ((layA P W n).2 i) = 0 then shK P (rLn ((layA P W n).2 i)) else 0
  | 0, i, h => absurd h (Nat.not_lt_zero i)
  | n + 1, i, h => by
    show (if i = (layA P W n).1 then shK P n else shA P W n i) = _
    by_cases q : i < (layA P W n).1
    · rw [if_neg (by omega), shA_ok P W n i q, layA_keep P W (show n ≤ n + 1 by omega) q]
    · obtain ⟨r1, r2⟩ := layA_row P W (show n < n + 1 by omega) (show (layA P W n).1 ≤ i by omega) h
      by_cases q2 : i = (layA P W n).1
      · rw [if_pos q2, r2, if_pos (by omega), r1]
      · rw [if_neg q2, r2, if_neg (by omega)]
        have : ∀ n i, (layA P W n).1 ≤ i → shA P W n i = 0 := by
          intro n
          induction n with
          | zero => intro i _; rfl
          | succ n ih =>
            intro i hi
            have := layA_lt P W n
            show (if i = (layA P W n).1 then shK P n else shA P W n i) = 0
            rw [if_neg (by omega)]; exact ih i (by omega)
        exact this n i (by omega)


/-- the rows of line k begin at g; what stood before stays -/
def WF (k g : Nat) (r0 rs : RS) : Prop := g < rs.1 ∧ (∀ i, g ≤ i → i < rs.1 → rLn (rs.2 i) = k ∧ rIx (rs.2 i) = i - g) ∧ ∀ i, i < g → rs.2 i = r0.2 i
theorem WF_set {k g v : Nat} {r0 rs : RS} (h : WF k g r0 rs) : WF k g r0 (setL rs v) := by
  obtain ⟨h1, h2, h3⟩ := h
  refine ⟨h1, fun i hi hj => ?_, fun i hi => ?_⟩
  · obtain ⟨a, b⟩ := h2 i hi hj
    show rLn (if i = rs.1 - 1 then wLe (rs.2 i) v else rs.2 i) = k ∧ rIx (if i = rs.1 - 1 then wLe (rs.2 i) v else rs.2 i) = i - g
    split
    · exact ⟨a, b⟩
    · exact ⟨a, b⟩
  · show (if i = rs.1 - 1 then wLe (rs.2 i) v else rs.2 i) = _
    rw [if_neg (by omega)]; exact h3 i hi
theorem WF_nx {k g c1 fr wi : Nat} {r0 rs : RS} (h : WF k g r0 rs) : WF k g r0 (nxR rs c1 fr wi) := by
  obtain ⟨h1, h2, h3⟩ := h
  obtain ⟨a, b⟩ := h2 (rs.1 - 1) (by omega) (by omega)
  refine ⟨Nat.lt_succ_of_lt h1, fun i hi hj => ?_, fun i hi => ?_⟩
  · have hj' : i < rs.1 + 1 := hj
    show rLn (if i = rs.1 then _ else rs.2 i) = k ∧ rIx (if i = rs.1 then _ else rs.2 i) = i - g
    by_cases q : i = rs.1
    · rw [if_pos q]
      refine ⟨a, ?_⟩
      show rIx (rs.2 (rs.1 - 1)) + 1 = i - g
      omega
    · rw [if_neg q]; exact h2 i hi (by omega)
  · show (if i = rs.1 then _ else rs.2 i) = _
    rw [if_neg (by omega)]; exact h3 i hi
theorem WF_cut {k g W c1 : Nat} {r0 : RS} : ∀ d l rs, WF k g r0 rs → WF k g r0 (cutS W c1 d l rs).2 := by
  intro d
  induction d with
  | zero => intro l rs h; exact h
  | succ d ih =>
    intro l rs h
    rw [cutS]
    split
    · exact ih _ _ (WF_nx (WF_set h))
    · exact h
theorem WF_word {k g W c1 n fr : Nat} {r0 rs : RS} (h : WF k g r0 rs) : WF k g r0 (wordS W c1 n fr rs) := by
  rw [wordS]
  split
  · exact WF_set h
  · refine WF_set (WF_cut 16 n _ ?_)
    split
    · exact WF_nx h
    · exact h
theorem WF_words {k g W c1 : Nat} {E : Nat → Nat} {r0 : RS} : ∀ d j rs, WF k g r0 rs → WF k g r0 (wordsS W c1 E d j rs) := by
  intro d
  induction d with
  | zero => intro j rs h; exact h
  | succ d ih => intro j rs h; exact ih (j + 1) _ (WF_word h)
theorem layL_WF (P : PoT) (W k : Nat) (rs : RS) : WF k rs.1 rs (layL P W k rs) := by
  refine WF_words _ _ _ ⟨Nat.lt_succ_self _, fun i hi hj => ?_, fun i hi => if_neg (by omega)⟩
  have hj' : i < rs.1 + 1 := hj
  have e : i = rs.1 := by omega
  show rLn (if i = rs.1 then _ else rs.2 i) = k ∧ rIx (if i = rs.1 then _ else rs.2 i) = i - rs.1
  rw [if_pos e]
  exact ⟨rfl, by show 0 = i - rs.1; omega⟩
theorem layA_mono (P : PoT) (W : Nat) {i j : Nat} (h : i ≤ j) : (layA P W i).1 ≤ (layA P W j).1 := by
  induction h with
  | refl => exact Nat.le_refl _
  | step _ ih => exact Nat.le_trans ih (Nat.le_of_lt (layL_WF P W _ _).1)
theorem layA_lt (P : PoT) (W k : Nat) : (layA P W k).1 < (layA P W (k + 1)).1 := (layL_WF P W k _).1
theorem layA_keep (P : PoT) (W : Nat) {k n : Nat} (h : k ≤ n) {i : Nat} (hi : i < (layA P W k).1) : (layA P W n).2 i = (layA P W k).2 i := by
  induction h with
  | refl => rfl
  | step h ih =>
    have m := layA_mono P W h
    exact ((layL_WF P W _ _).2.2 i (by omega)).trans ih
/-- row i of line k -/
theorem layA_row (P : PoT) (W : Nat) {k n i : Nat} (hk : k < n) (h1 : (layA P W k).1 ≤ i) (h2 : i < (layA P W (k + 1)).1) : rLn ((layA P W n).2 i) = k ∧ rIx ((layA P W n).2 i) = i - (layA P W k).1 := by
  rw [layA_keep P W (show k + 1 ≤ n by omega) h2]
  exact (layL_WF P W k _).2.1 i h1 h2
/-- each row stands in a line -/
theorem layA_in (P : PoT) (W : Nat) : ∀ n i, i < (layA P W n).1 → ∃ k, k < n ∧ (layA P W k).1 ≤ i ∧ i < (layA P W (k + 1)).1
  | 0, i, h => absurd h (Nat.not_lt_zero i)
  | n + 1, i, h => by
    by_cases q : (layA P W n).1 ≤ i
    · exact ⟨n, by omega, q, h⟩
    · obtain ⟨k, a, b, c⟩ := layA_in P W n i (by omega)
      exact ⟨k, by omega, b, c⟩
theorem srS_0 (P : PoT) (W : Nat) : ∀ k s, szN P k ≤ s → srS P W k s = 0 := by
  intro k
  induction k with
  | zero => intro s _; rfl
  | succ k ih =>
    intro s hs
    have m1 := szN_mono P (show k ≤ k + 1 by omega)
    have m2 := szN_le P (k + 1)
    rw [srS, if_neg (by unfold szO; omega)]; exact ih s (by omega)
/-- lines from k on that begin no stanza: where they end -/
def enF (P : PoT) : Nat → Nat → Nat
  | 0, k => k
  | d + 1, k => if bgS P k = true then k else enF P d (k + 1)
theorem enF_ok (P : PoT) : ∀ d k, k ≤ enF P d k ∧ enF P d k ≤ k + d ∧ (∀ j, k ≤ j → j < enF P d k → bgS P j = false) ∧ (enF P d k < k + d → bgS P (enF P d k) = true) := by
  intro d
  induction d with
  | zero => intro k; exact ⟨Nat.le_refl _, Nat.le_refl _, fun j h1 h2 => by have : j < k := h2; omega, fun h => by have : k < k + 0 := h; omega⟩
  | succ d ih =>
    intro k
    rw [enF]
    split
    · rename_i h
      exact ⟨Nat.le_refl _, by omega, fun j h1 h2 => by omega, fun _ => h⟩
    · rename_i h
      obtain ⟨a, b, c, e⟩ := ih (k + 1)
      refine ⟨by omega, by omega, fun j h1 h2 => ?_, fun x => e (by omega)⟩
      by_cases q : j = k
      · subst q; simpa using h
      · exact c j (by omega) h2
/-- lines k .. e - 1 are a stanza -/
theorem stz_in {P : PoT} {k e : Nat} (hb : bgS P k = true) (hno : ∀ j, k + 1 ≤ j → j < e → bgS P j = false) : ∀ j, k ≤ j → j < e → szN P (j + 1) = szN P k + 1 ∧ szO P j = szN P k ∧ sfA P (j + 1) (szN P k) = k := by
  intro j h1
  induction h1 with
  | refl => intro _; have e1 : szN P (k + 1) = szN P k + 1 := by rw [szN, if_pos hb]
            exact ⟨e1, by rw [szO, e1]; omega, by rw [sfA, if_pos ⟨hb, rfl⟩]⟩
  | step h1 ih =>
    rename_i m
    have h1' : k ≤ m := h1
    intro h2
    obtain ⟨a, b, c⟩ := ih (by omega)
    have hf := hno (m + 1) (by omega) h2
    have e1 : szN P (m + 1 + 1) = szN P k + 1 := by rw [szN, if_neg (by simp [hf]), a]
    exact ⟨e1, by rw [szO, e1]; omega, by rw [sfA, if_neg (by simp [hf]), c]⟩
theorem stz_rows {P : PoT} {W k e : Nat} (hb : bgS P k = true) (hno : ∀ j, k + 1 ≤ j → j < e → bgS P j = false) : ∀ j, k ≤ j → j ≤ e → srS P W j (szN P k) = (layA P W j).1 - (layA P W k).1 := by
  intro j h1
  induction h1 with
  | refl => intro _; rw [srS_0 P W k _ (Nat.le_refl _), Nat.sub_self]
  | step h1 ih =>
    rename_i m
    have h1' : k ≤ m := h1
    intro h2
    have a := ih (by omega)
    have b := (stz_in hb hno m h1' (by omega)).2.1
    have m1 := layA_mono P W h1'
    have m2 := layA_mono P W (show m ≤ m + 1 by omega)
    show srS P W (m + 1) (szN P k) = (layA P W (m + 1)).1 - (layA P W k).1
    rw [srS, if_pos b, a]; unfold lrS; omega
theorem stz_all {P : PoT} {W k e n : Nat} (hb : bgS P k = true) (hke : k < e) (hno : ∀ j, k + 1 ≤ j → j < e → bgS P j = false) (hen : e ≤ n) (he : e < n → bgS P e = true) : srS P W n (szN P k) = (layA P W e).1 - (layA P W k).1 ∧ sfA P n (szN P k) = k ∧ szN P e = szN P k + 1 := by
  have a := stz_rows (W := W) hb hno e (by omega) (Nat.le_refl _)
  obtain ⟨b1, b2, b3⟩ := stz_in hb hno (e - 1) (by omega) (by omega)
  rw [show e - 1 + 1 = e by omega] at b1 b3
  have : ∀ m, e ≤ m → m ≤ n → srS P W m (szN P k) = (layA P W e).1 - (layA P W k).1 ∧ sfA P m (szN P k) = k := by
    intro m h1
    induction h1 with
    | refl => intro _; exact ⟨a, b3⟩
    | step h1 ih =>
      rename_i m
      have h1' : e ≤ m := h1
      intro h2
      obtain ⟨c1, c2⟩ := ih (by omega)
      have hbe := he (by omega)
      have e1 : szN P (e + 1) = szN P k + 2 := by rw [szN, if_pos hbe, b1]
      have m1 := szN_mono P (show e + 1 ≤ m + 1 by omega)
      have m2 := szN_mono P h1'
      exact ⟨by rw [srS, if_neg (by unfold szO; omega)]; exact c1, by rw [sfA, if_neg (fun x => by omega)]; exact c2⟩
  exact ⟨(this n hen (Nat.le_refl _)).1, (this n hen (Nat.le_refl _)).2, b1⟩


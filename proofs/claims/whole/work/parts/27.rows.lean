/-- a row: line, part, column, first byte, length, 1 if within a word -/
abbrev RT : Type := Nat × Nat × Nat × Nat × Nat × Nat
def rLn (r : RT) : Nat := r.1
def rIx (r : RT) : Nat := r.2.1
def rCo (r : RT) : Nat := r.2.2.1
def rFr (r : RT) : Nat := r.2.2.2.1
def rLe (r : RT) : Nat := r.2.2.2.2.1
def rWi (r : RT) : Nat := r.2.2.2.2.2
/-- rows: how many, and what they are -/
abbrev RS : Type := Nat × (Nat → RT)
def lastR (rs : RS) : RT := rs.2 (rs.1 - 1)
def addR (rs : RS) (r : RT) : RS := (rs.1 + 1, fun i => if i = rs.1 then r else rs.2 i)
def wLe (r : RT) (v : Nat) : RT := (r.1, r.2.1, r.2.2.1, r.2.2.2.1, v, r.2.2.2.2.2)
def setL (rs : RS) (v : Nat) : RS := (rs.1, fun i => if i = rs.1 - 1 then wLe (rs.2 i) v else rs.2 i)
theorem lastR_add (rs : RS) (r : RT) : lastR (addR rs r) = r := by
  show (if rs.1 + 1 - 1 = rs.1 then r else _) = r
  rw [if_pos (by omega)]
theorem lastR_set (rs : RS) (v : Nat) : lastR (setL rs v) = wLe (lastR rs) v := by
  show (if rs.1 - 1 = rs.1 - 1 then wLe (rs.2 (rs.1 - 1)) v else _) = _
  rw [if_pos rfl]; rfl
/-- the row behind the last one, of the same line -/
def nxR (rs : RS) (c1 fr wi : Nat) : RS := addR rs (rLn (lastR rs), rIx (lastR rs) + 1, c1, fr, 0, wi)
/-- a word is cut as often as it is too long -/
def cutS (W c1 : Nat) : Nat → Nat → RS → Nat × RS
  | 0, l, rs => (l, rs)
  | d + 1, l, rs => if W - rCo (lastR rs) < l then cutS W c1 d (l - (W - rCo (lastR rs))) (nxR (setL rs (W - rCo (lastR rs))) c1 (rFr (lastR rs) + (W - rCo (lastR rs))) 1) else (l, rs)
def putS (W c1 n : Nat) (rs : RS) : RS := setL (cutS W c1 16 n rs).2 (cutS W c1 16 n rs).1
/-- a word of n letters from byte fr on -/
def wordS (W c1 n fr : Nat) (rs : RS) : RS :=
  if 0 < rLe (lastR rs) ∧ rCo (lastR rs) + rLe (lastR rs) + 1 + n ≤ W then setL rs (rLe (lastR rs) + 1 + n)
  else putS W c1 n (if 0 < rLe (lastR rs) then nxR rs c1 fr 0 else rs)
/-- d words from word j on -/
def wordsS (W c1 : Nat) (E : Nat → Nat) : Nat → Nat → RS → RS
  | 0, _, rs => rs
  | d + 1, j, rs => wordsS W c1 E d (j + 1) (wordS W c1 (E j) (stW E j) rs)
/-- the rows of a line are at most 20: f0 where the row ahead begins; any two rows hold 8 bytes -/
def RI (k W c1 : Nat) (rs : RS) (fp : Nat) : Prop := 0 < rs.1 ∧ rCo (lastR rs) + 6 ≤ W ∧ c1 + 6 ≤ W ∧ rLn (lastR rs) = k ∧ 8 * (rIx (lastR rs) / 2) ≤ rFr (lastR rs) ∧ (0 < rIx (lastR rs) → 8 * ((rIx (lastR rs) - 1) / 2) ≤ fp)
/-- what cutting keeps: n letters are to be put from byte rFr on -/
theorem cut_ok {k W c1 : Nat} : ∀ d l rs fp, RI k W c1 rs fp → rLe (lastR rs) = 0 → 1 ≤ l → l ≤ 6 * d → (0 < rIx (lastR rs) → fp + 8 ≤ rFr (lastR rs) + l + 1 ∧ fp + 2 ≤ rFr (lastR rs)) →
    ∃ fp', RI k W c1 (cutS W c1 d l rs).2 fp' ∧ rLe (lastR (cutS W c1 d l rs).2) = 0 ∧ 1 ≤ (cutS W c1 d l rs).1 ∧ (cutS W c1 d l rs).1 + rCo (lastR (cutS W c1 d l rs).2) ≤ W ∧ rFr (lastR (cutS W c1 d l rs).2) + (cutS W c1 d l rs).1 = rFr (lastR rs) + l ∧ (0 < rIx (lastR (cutS W c1 d l rs).2) → fp' + 8 ≤ rFr (lastR (cutS W c1 d l rs).2) + (cutS W c1 d l rs).1 + 1) ∧ (cutS W c1 d l rs).2.1 + rIx (lastR rs) = rs.1 + rIx (lastR (cutS W c1 d l rs).2) := by
  intro d
  induction d with
  | zero => intro l rs fp _ _ h1 h2 _; omega
  | succ d ih =>
    intro l rs fp h h0 h1 h2 h3
    obtain ⟨a1, a2, a3, a4, a5, a6⟩ := h
    by_cases q : W - rCo (lastR rs) < l
    · have e : cutS W c1 (d + 1) l rs = cutS W c1 d (l - (W - rCo (lastR rs))) (nxR (setL rs (W - rCo (lastR rs))) c1 (rFr (lastR rs) + (W - rCo (lastR rs))) 1) := by rw [cutS, if_pos q]
      rw [e]
      generalize hrs : nxR (setL rs (W - rCo (lastR rs))) c1 (rFr (lastR rs) + (W - rCo (lastR rs))) 1 = rs2
      have eL : lastR rs2 = (rLn (lastR rs), rIx (lastR rs) + 1, c1, rFr (lastR rs) + (W - rCo (lastR rs)), 0, 1) := by rw [← hrs, nxR, lastR_add, lastR_set]; rfl
      have eN : rs2.1 = rs.1 + 1 := by rw [← hrs]; rfl
      have e1 : rIx (lastR rs2) = rIx (lastR rs) + 1 := by rw [eL]; rfl
      have e2 : rFr (lastR rs2) = rFr (lastR rs) + (W - rCo (lastR rs)) := by rw [eL]; rfl
      have e3 : rCo (lastR rs2) = c1 := by rw [eL]; rfl
      have e4 : rLe (lastR rs2) = 0 := by rw [eL]; rfl
      have e5 : rLn (lastR rs2) = k := by rw [eL]; exact a4
      have hri : RI k W c1 rs2 (rFr (lastR rs)) := by
        refine ⟨by omega, by omega, a3, e5, ?_, fun _ => ?_⟩
        · rw [e1, e2]
          by_cases z : 0 < rIx (lastR rs)
          · have := (h3 z).2; have := a6 z; omega
          · omega
        · rw [e1, Nat.add_sub_cancel]; exact a5
      obtain ⟨fp', b1, b2, b3, b4, b5, b6, b7⟩ := ih (l - (W - rCo (lastR rs))) rs2 (rFr (lastR rs)) hri e4 (by omega) (by omega) (fun _ => by rw [e2]; omega)
      exact ⟨fp', b1, b2, b3, b4, by rw [b5, e2]; omega, b6, by omega⟩
    · have e : cutS W c1 (d + 1) l rs = (l, rs) := by rw [cutS, if_neg q]
      rw [e]
      exact ⟨fp, ⟨a1, a2, a3, a4, a5, a6⟩, h0, h1, by show l + rCo (lastR rs) ≤ W; omega, rfl, fun z => (h3 z).1, by show rs.1 + _ = _; rfl⟩
/-- at a word's boundary: fr is where the next word begins -/
def RB (k W c1 : Nat) (rs : RS) (fp fr : Nat) : Prop := RI k W c1 rs fp ∧ ((rLe (lastR rs) = 0 ∧ rFr (lastR rs) = fr ∧ rIx (lastR rs) = 0) ∨ (0 < rLe (lastR rs) ∧ rFr (lastR rs) + rLe (lastR rs) + 1 = fr ∧ (0 < rIx (lastR rs) → fp + 8 ≤ fr))) ∧ rCo (lastR rs) + rLe (lastR rs) ≤ W
theorem word_ok {k W c1 n fr fp : Nat} {rs : RS} (h : RB k W c1 rs fp fr) (hn : 1 ≤ n) (hn2 : n ≤ 80) : ∃ fp', RB k W c1 (wordS W c1 n fr rs) fp' (fr + n + 1) ∧ 0 < rLe (lastR (wordS W c1 n fr rs)) ∧ (wordS W c1 n fr rs).1 + rIx (lastR rs) = rs.1 + rIx (lastR (wordS W c1 n fr rs)) := by
  obtain ⟨⟨a1, a2, a3, a4, a5, a6⟩, a7, a8⟩ := h
  by_cases q : 0 < rLe (lastR rs) ∧ rCo (lastR rs) + rLe (lastR rs) + 1 + n ≤ W
  · have e : wordS W c1 n fr rs = setL rs (rLe (lastR rs) + 1 + n) := by rw [wordS, if_pos q]
    have eL : lastR (wordS W c1 n fr rs) = wLe (lastR rs) (rLe (lastR rs) + 1 + n) := by rw [e, lastR_set]
    have f1 : rLn (lastR (wordS W c1 n fr rs)) = rLn (lastR rs) := by rw [eL]; rfl
    have f2 : rIx (lastR (wordS W c1 n fr rs)) = rIx (lastR rs) := by rw [eL]; rfl
    have f3 : rCo (lastR (wordS W c1 n fr rs)) = rCo (lastR rs) := by rw [eL]; rfl
    have f4 : rFr (lastR (wordS W c1 n fr rs)) = rFr (lastR rs) := by rw [eL]; rfl
    have f5 : rLe (lastR (wordS W c1 n fr rs)) = rLe (lastR rs) + 1 + n := by rw [eL]; rfl
    have f6 : (wordS W c1 n fr rs).1 = rs.1 := by rw [e]; rfl
    refine ⟨fp, ⟨⟨by omega, by omega, a3, by omega, by rw [f2, f4]; exact a5, fun z => by rw [f2] at z ⊢; exact a6 z⟩, Or.inr ⟨by omega, by omega, fun z => ?_⟩, by omega⟩, by omega, by omega⟩
    rw [f2] at z
    rcases a7 with a7 | a7
    · omega
    · have := a7.2.2 z; omega
  · have hcut : ∀ rs1 fp1, RI k W c1 rs1 fp1 → rLe (lastR rs1) = 0 → rFr (lastR rs1) = fr → (0 < rIx (lastR rs1) → fp1 + 8 ≤ rFr (lastR rs1) + n + 1 ∧ fp1 + 2 ≤ rFr (lastR rs1)) → rs1.1 + rIx (lastR rs) = rs.1 + rIx (lastR rs1) → wordS W c1 n fr rs = putS W c1 n rs1 →
      ∃ fp', RB k W c1 (wordS W c1 n fr rs) fp' (fr + n + 1) ∧ 0 < rLe (lastR (wordS W c1 n fr rs)) ∧ (wordS W c1 n fr rs).1 + rIx (lastR rs) = rs.1 + rIx (lastR (wordS W c1 n fr rs)) := by
      intro rs1 fp1 c1' c2 c3 c4 c5 c6
      obtain ⟨fp', b1, b2, b3, b4, b5, b6, b7⟩ := cut_ok 16 n rs1 fp1 c1' c2 hn (by omega) c4
      rw [c6, putS]
      generalize hr : cutS W c1 16 n rs1 = r at *
      have eL : lastR (setL r.2 r.1) = wLe (lastR r.2) r.1 := lastR_set _ _
      have f1 : rLn (lastR (setL r.2 r.1)) = rLn (lastR r.2) := by rw [eL]; rfl
      have f2 : rIx (lastR (setL r.2 r.1)) = rIx (lastR r.2) := by rw [eL]; rfl
      have f3 : rCo (lastR (setL r.2 r.1)) = rCo (lastR r.2) := by rw [eL]; rfl
      have f4 : rFr (lastR (setL r.2 r.1)) = rFr (lastR r.2) := by rw [eL]; rfl
      have f5 : rLe (lastR (setL r.2 r.1)) = r.1 := by rw [eL]; rfl
      have f6 : (setL r.2 r.1).1 = r.2.1 := rfl
      obtain ⟨d1, d2, d3, d4, d5, d6⟩ := b1
      exact ⟨fp', ⟨⟨by omega, by omega, d3, by omega, by rw [f2, f4]; exact d5, fun z => by rw [f2] at z ⊢; exact d6 z⟩, Or.inr ⟨by omega, by omega, fun z => by have := b6 (by omega); omega⟩, by omega⟩, by omega, by omega⟩
    by_cases z : 0 < rLe (lastR rs)
    · have e : wordS W c1 n fr rs = putS W c1 n (nxR rs c1 fr 0) := by rw [wordS, if_neg q, if_pos z]
      have eL : lastR (nxR rs c1 fr 0) = (rLn (lastR rs), rIx (lastR rs) + 1, c1, fr, 0, 0) := by rw [nxR, lastR_add]
      have f1 : rLn (lastR (nxR rs c1 fr 0)) = rLn (lastR rs) := by rw [eL]; rfl
      have f2 : rIx (lastR (nxR rs c1 fr 0)) = rIx (lastR rs) + 1 := by rw [eL]; rfl
      have f3 : rCo (lastR (nxR rs c1 fr 0)) = c1 := by rw [eL]; rfl
      have f4 : rFr (lastR (nxR rs c1 fr 0)) = fr := by rw [eL]; rfl
      have f5 : rLe (lastR (nxR rs c1 fr 0)) = 0 := by rw [eL]; rfl
      have f6 : (nxR rs c1 fr 0).1 = rs.1 + 1 := rfl
      rcases a7 with a7 | a7
      · omega
      · refine hcut _ (rFr (lastR rs)) ⟨by omega, by omega, a3, by omega, ?_, fun _ => by rw [f2, Nat.add_sub_cancel]; exact a5⟩ f5 f4 (fun _ => by omega) (by omega) e
        rw [f2, f4]
        by_cases y : 0 < rIx (lastR rs)
        · have := a7.2.2 y; have := a6 y; omega
        · omega
    · have e : wordS W c1 n fr rs = putS W c1 n rs := by rw [wordS, if_neg q, if_neg z]
      rcases a7 with a7 | a7
      · exact hcut rs fp ⟨a1, a2, a3, a4, a5, a6⟩ a7.1 a7.2.1 (fun y => by omega) rfl e
      · omega
/-- the reference's rows are rs -/
def RM (M : MS) (rs : RS) : Prop := mF M 17 = zI rs.1 ∧ ∀ i, i < rs.1 → mA M 4 i = zI (rLn (rs.2 i)) ∧ mA M 5 i = zI (rIx (rs.2 i)) ∧ mA M 6 i = zI (rCo (rs.2 i)) ∧ mA M 7 i = zI (rLe (rs.2 i)) ∧ mA M 8 i = zI (rWi (rs.2 i)) ∧ mA M 9 i = zI (rFr (rs.2 i))
/-- nothing but the rows has changed -/
def FR (M N : MS) : Prop := (∀ r j, (r < 4 ∨ 9 < r) → mA N r j = mA M r j) ∧ (∀ k, k ≠ 17 → mF N k = mF M k) ∧ mJ N = mJ M
theorem FR_refl (M : MS) : FR M M := ⟨fun _ _ _ => rfl, fun _ _ => rfl, rfl⟩
theorem FR_trans {M N O : MS} (h : FR M N) (g : FR N O) : FR M O := ⟨fun r j hr => (g.1 r j hr).trans (h.1 r j hr), fun k hk => (g.2.1 k hk).trans (h.2.1 k hk), g.2.2.trans h.2.2⟩
/-- the last row's length -/
theorem RM_setL {M : MS} {rs : RS} (h : RM M rs) (h0 : 0 < rs.1) (v : Nat) : RM (eA M 7 (rs.1 - 1) (zI v)) (setL rs v) ∧ FR M (eA M 7 (rs.1 - 1) (zI v)) := by
  refine ⟨⟨h.1, fun i hi => ?_⟩, fun r j hr => ?_, fun k _ => rfl, rfl⟩
  · obtain ⟨a1, a2, a3, a4, a5, a6⟩ := h.2 i hi
    simp only [setL]
    by_cases q : i = rs.1 - 1
    · rw [if_pos q]
      refine ⟨?_, ?_, ?_, ?_, ?_, ?_⟩
      · rw [mA_eA, if_neg (by omega)]; exact a1
      · rw [mA_eA, if_neg (by omega)]; exact a2
      · rw [mA_eA, if_neg (by omega)]; exact a3
      · rw [mA_eA, if_pos ⟨rfl, q⟩]; rfl
      · rw [mA_eA, if_neg (by omega)]; exact a5
      · rw [mA_eA, if_neg (by omega)]; exact a6
    · rw [if_neg q]
      simp only [mA_eA]
      refine ⟨?_, ?_, ?_, ?_, ?_, ?_⟩ <;> rw [if_neg (by omega)] <;> assumption
  · rw [mA_eA, if_neg (by omega)]
theorem jlesser (M : MS) (a b : Nat) (ha : a ≤ 2147483647) (hb : b ≤ 2147483647) : g_X11_lesser M (zI a) (zI b) = some (zI ((min a b : Nat) : Int)) := by
  rw [g_X11_lesser]
  by_cases q : a < b
  · rw [if_neg (fun x => by have := (zN_le hb ha).mp x; omega), Nat.min_eq_left (by omega)]
  · rw [if_pos ((zN_le hb ha).mpr (by omega)), Nat.min_eq_right (by omega)]
theorem g_begins {M : MS} {rs : RS} {W ln idx col fr wi : Nat} (h : RM M rs) (hN : rs.1 < 960) (hW : mA M 0 2041 = zI W) (hW2 : W ≤ 60) (hW3 : 12 ≤ W) (hc : col ≤ 100000) : ∃ N, g_X11_begins M (zI ln) (zI idx) (zI col) (zI fr) (zI wi) = some N ∧ RM N (addR rs (ln, idx, min col (W - 6), fr, 0, wi)) ∧ FR M N := by
  have i1 : ix (zI (rs.1 : Int)) 960 = some rs.1 := ix_l _ _ hN (by omega)
  have i2 : ix (2041 : Int32) 2046 = some 2041 := rfl
  have w6 : zI (W : Int) - 6 = zI ((W - 6 : Nat) : Int) := by
    rw [show ((W - 6 : Nat) : Int) = (W : Int) - 6 by omega]; exact zI_sub W 6
  rw [g_X11_begins]
  simp only [mF_eA, h.1, i1, bnd, i2]
  rw [show mA (eA (eA M 4 rs.1 (zI ln)) 5 rs.1 (zI idx)) 0 2041 = zI W by rw [mA_eA, if_neg (by omega), mA_eA, if_neg (by omega)]; exact hW, w6, jlesser _ _ _ (by omega) (by omega)]
  simp only [bnd, zN_add1]
  refine ⟨_, rfl, ⟨?_, fun i hi => ?_⟩, fun r j hr => ?_, fun k hk => ?_, rfl⟩
  · rw [mF_eF, if_pos rfl]; rfl
  · simp only [addR]
    by_cases q : i = rs.1
    · rw [if_pos q, q]
      simp only [mA_eF, mA_eA]
      exact ⟨rfl, rfl, rfl, rfl, rfl, rfl⟩
    · have hi' : i < rs.1 := by have : i < rs.1 + 1 := hi; omega
      obtain ⟨a1, a2, a3, a4, a5, a6⟩ := h.2 i hi'
      rw [if_neg q]
      simp only [mA_eF, mA_eA, q, and_false, if_false]
      exact ⟨a1, a2, a3, a4, a5, a6⟩
  · simp only [mA_eF, mA_eA]
    repeat rw [if_neg (by omega)]
  · rw [mF_eF, if_neg hk]; rfl
/-- line k as it stands in the reference's numbers -/
def LM (M : MS) (k len : Nat) (B : Nat → Int32) : Prop := k < 24 ∧ len ≤ 80 ∧ mA M 0 (85 * k) = zI len ∧ ∀ i, i < len → mA M 0 (85 * k + 5 + i) = B i
theorem g_of {M : MS} {k j : Nat} (hk : k < 24) (hj : j < 85) : g_X11_of M (zI k) (zI j) = some (mA M 0 (85 * k + j)) := by
  have e : (85 : Int32) * zI k + zI j = zI ((85 * k + j : Nat) : Int) := by
    rw [show ((85 * k + j : Nat) : Int) = 85 * (k : Int) + j by omega, ← zI_add, ← zI_mul]; rfl
  rw [g_X11_of, e, ix_l _ _ (by omega) (by omega), bnd]
theorem g_word0 {M : MS} {k len cnt lt : Nat} {B : Nat → Int32} {E : Nat → Nat} (h : LM M k len B) (hw : WL len cnt lt B E) {j o : Nat} (hj : j < cnt) : ∀ d i f, o + i + d = E j → d < f → LGX11_wordFrom_2 f M (zI k) (zI ((stW E j + o : Nat) : Int)) (zI i) = some (zI ((E j - o : Nat) : Int)) := by
  obtain ⟨h1, h2, h3, h4⟩ := h
  obtain ⟨w1, w2, w3, w4, w5, w6⟩ := hw
  have l1 := (w2 (by omega)).1
  have lj := stW_m E (show j < cnt from hj)
  intro d
  induction d with
  | zero =>
    intro i f hi hf
    obtain ⟨f, rfl⟩ : ∃ f', f = f' + 1 := ⟨f - 1, by omega⟩
    rw [LGX11_wordFrom_2, show (0 : Int32) = zI ((0 : Nat) : Int) from rfl, g_of h1 (by omega), bnd, Nat.add_zero, h3, zN_add]
    by_cases q : len ≤ stW E j + o + i
    · rw [if_pos ((zN_le (by omega) (by omega)).mpr q)]; congr 2; omega
    · have hj1 : j + 1 < cnt := by
        by_cases z : j + 1 < cnt
        · exact z
        · have : j + 1 = cnt := by omega
          rw [← this, stW] at l1; omega
      have b := w6 j hj1
      rw [if_neg (fun x => q ((zN_le (by omega) (by omega)).mp x)), zN_5, zN_add, g_of h1 (by omega), bnd, show 85 * k + (5 + (stW E j + o) + i) = 85 * k + 5 + (stW E j + E j) by omega, h4 _ (by omega), b, if_pos rfl]
      congr 2; omega
  | succ d ih =>
    intro i f hi hf
    obtain ⟨f, rfl⟩ : ∃ f', f = f' + 1 := ⟨f - 1, by omega⟩
    have b := w5 j (o + i) hj (by omega)
    have hb : ¬ B (stW E j + (o + i)) = 32 := fun x => by rw [x] at b; exact absurd b (by decide)
    rw [LGX11_wordFrom_2, show (0 : Int32) = zI ((0 : Nat) : Int) from rfl, g_of h1 (by omega), bnd, Nat.add_zero, h3, zN_add, if_neg (fun x => by have := (zN_le (by omega) (by omega)).mp x; omega), zN_5, zN_add, g_of h1 (by omega), bnd, show 85 * k + (5 + (stW E j + o) + i) = 85 * k + 5 + (stW E j + (o + i)) by omega, h4 _ (by omega), if_neg hb, zN_add1]
    exact ih (i + 1) f (by omega) (by omega)
theorem g_wordFrom {M : MS} {k len cnt lt : Nat} {B : Nat → Int32} {E : Nat → Nat} (h : LM M k len B) (hw : WL len cnt lt B E) {j o : Nat} (hj : j < cnt) (ho : o ≤ E j) : g_X11_wordFrom M (zI k) (zI ((stW E j + o : Nat) : Int)) = some (zI ((E j - o : Nat) : Int)) := by
  have l1 := (hw.2.1 (by omega)).1
  have lj := stW_m E (show j < cnt from hj)
  have := h.2.1
  have e := g_word0 h hw hj (o := o) (E j - o) 0 FU (by omega) (by simp only [FU]; omega)
  rw [g_X11_wordFrom, show (0 : Int32) = zI ((0 : Nat) : Int) from rfl, e, bnd]
theorem LM_FR {M N : MS} {k len : Nat} {B : Nat → Int32} (h : LM M k len B) (g : FR M N) : LM N k len B :=
  ⟨h.1, h.2.1, (g.1 0 _ (by omega)).trans h.2.2.1, fun i hi => (g.1 0 _ (by omega)).trans (h.2.2.2 i hi)⟩
/-- the settings that rows need -/
def LSt (M : MS) (W ro : Nat) : Prop := mA M 0 2041 = zI W ∧ mA M 0 2044 = zI ro ∧ 12 ≤ W ∧ W ≤ 60 ∧ ro ≤ 1000
theorem LSt_FR {M N : MS} {W ro : Nat} (h : LSt M W ro) (g : FR M N) : LSt N W ro := ⟨(g.1 0 _ (by omega)).trans h.1, (g.1 0 _ (by omega)).trans h.2.1, h.2.2⟩
theorem RM_last {M : MS} {rs : RS} (h : RM M rs) (h0 : 0 < rs.1) : mA M 6 (rs.1 - 1) = zI (rCo (lastR rs)) ∧ mA M 7 (rs.1 - 1) = zI (rLe (lastR rs)) := ⟨(h.2 _ (by omega)).2.2.1, (h.2 _ (by omega)).2.2.2.1⟩
theorem zN_sub {a b : Nat} (h : b ≤ a) : zI (a : Int) - zI b = zI ((a - b : Nat) : Int) := by rw [zI_sub]; congr 1; omega
theorem if_le01 (c : Prop) [Decidable c] : (if c then some (0 : Int32) else some 1) = some (if c then 0 else 1) := by split <;> rfl
section ROWS
variable {M : MS} {rs : RS} {k len cnt lt W ro base fst j o : Nat} {B : Nat → Int32} {E : Nat → Nat}
/-- how an iteration begins -/
theorem it_0 (hl : LM M k len B) (hw : WL len cnt lt B E) (hs : LSt M W ro) (hr : RM M rs) (h0 : 0 < rs.1) (hN : rs.1 ≤ 960) (hj : j < cnt) (ho : o < E j) (hle : rLe (lastR rs) ≤ 100) (f : Nat) : LGX11_laysRows_69 (f + 1) (zI k) (zI base) (zI fst) (zI ((stW E j + o : Nat) : Int)) M =
    (if ((zI W - zI (rCo (lastR rs)) - zI (rLe (lastR rs))) - (if 0 < rLe (lastR rs) then 1 else 0)) < zI ((E j - o : Nat) : Int) then
        if ¬ (if 0 < rLe (lastR rs) then (1 : Int32) else 0) = 1 then
          (g_X11_begins (eA M 7 (rs.1 - 1) ((zI W - zI (rCo (lastR rs)) - zI (rLe (lastR rs))) - (if 0 < rLe (lastR rs) then 1 else 0))) (zI k) (zI rs.1 - zI fst) (zI base + zI ro) (zI ((stW E j + o : Nat) : Int) + ((zI W - zI (rCo (lastR rs)) - zI (rLe (lastR rs))) - (if 0 < rLe (lastR rs) then 1 else 0))) 1).bind fun q38 =>
          some ((zI ((stW E j + o : Nat) : Int) + ((zI W - zI (rCo (lastR rs)) - zI (rLe (lastR rs))) - (if 0 < rLe (lastR rs) then 1 else 0))), q38)
        else
          (g_X11_begins M (zI k) (zI rs.1 - zI fst) (zI base + zI ro) (zI ((stW E j + o : Nat) : Int)) 0).bind fun q42 =>
          some (zI ((stW E j + o : Nat) : Int), q42)
      else
        some ((zI ((stW E j + o : Nat) : Int) + (zI ((E j - o : Nat) : Int) + 1)), (eA M 7 (rs.1 - 1) (zI (rLe (lastR rs)) + ((if 0 < rLe (lastR rs) then 1 else 0) + zI ((E j - o : Nat) : Int)))))).bind fun (x31 : Int32 × MS) =>
      LGX11_laysRows_69 f (zI k) (zI base) (zI fst) x31.1 x31.2 := by
  have l1 := (hw.2.1 (by omega)).1
  have lj := stW_m E (show j < cnt from hj)
  have hlen := hl.2.1
  obtain ⟨c1, c2⟩ := RM_last hr h0
  have i1 : ix (zI (rs.1 : Int) - 1) 960 = some (rs.1 - 1) := by rw [zN_sub1 h0, ix_l _ _ (by omega) (by omega)]
  have g0 : g_X11_of M (zI k) 0 = some (zI len) := by
    rw [show (0 : Int32) = zI ((0 : Nat) : Int) from rfl, g_of hl.1 (by omega), Nat.add_zero, hl.2.2.1]
  rw [LGX11_laysRows_69, g0, bnd, if_neg (fun x => by have := (zN_le (by omega) (by omega)).mp x; omega), g_wordFrom hl hw hj (by omega), bnd]
  simp only [hr.1, mF_eA, i1, bnd, c1, c2, ix_k 2041 2046 (by decide) (by decide), ix_k 2044 2046 (by decide) (by decide)]
  have eg : (if zI ((rLe (lastR rs) : Nat) : Int) ≤ 0 then some (0 : Int32) else some 1) = some (if 0 < rLe (lastR rs) then 1 else 0) := by
    by_cases z : 0 < rLe (lastR rs)
    · rw [if_neg (fun x => by have := (zN_le (b := 0) (by omega) (by omega)).mp x; omega), if_pos z]
    · have hz : zI ((rLe (lastR rs) : Nat) : Int) ≤ 0 := (zN_le (b := 0) (by omega) (by omega)).mpr (by omega)
      rw [if_pos hz, if_neg z]
  have e4 : ∀ v, mA (eA M 7 (rs.1 - 1) v) 0 2044 = zI ro := fun v => by rw [mA_eA, if_neg (by omega)]; exact hs.2.1
  rw [show mA M 0 (OfNat.ofNat 2041) = zI W from hs.1, show mA M 0 (OfNat.ofNat 2044) = zI ro from hs.2.1, eg, bnd]
  simp only [e4]
theorem LC_c1 (hs : LSt M W ro) (hb : base ≤ 1000) : zI (base : Int) + zI ro = zI ((base + ro : Nat) : Int) := zN_add _ _
/-- the word (or what is left of it) fits -/
theorem it_fit (hl : LM M k len B) (hw : WL len cnt lt B E) (hs : LSt M W ro) (hr : RM M rs) (h0 : 0 < rs.1) (hN : rs.1 ≤ 960) (hj : j < cnt) (ho : o < E j) (hle : rLe (lastR rs) ≤ 100) (hco : rCo (lastR rs) ≤ 100) (hfit : rCo (lastR rs) + rLe (lastR rs) + (if 0 < rLe (lastR rs) then 1 else 0) + (E j - o) ≤ W) (f : Nat) : LGX11_laysRows_69 (f + 1) (zI k) (zI base) (zI fst) (zI ((stW E j + o : Nat) : Int)) M = LGX11_laysRows_69 f (zI k) (zI base) (zI fst) (zI ((stW E (j + 1) : Nat) : Int)) (eA M 7 (rs.1 - 1) (zI ((rLe (lastR rs) + ((if 0 < rLe (lastR rs) then 1 else 0) + (E j - o)) : Nat) : Int))) := by
  have l1 := (hw.2.1 (by omega)).1
  have lj := stW_m E (show j < cnt from hj)
  have hlen := hl.2.1
  have hW := hs.2.2.2.1
  have eg : (if 0 < rLe (lastR rs) then (1 : Int32) else 0) = zI (((if 0 < rLe (lastR rs) then 1 else 0) : Nat) : Int) := by split <;> rfl
  rw [it_0 hl hw hs hr h0 hN hj ho hle f, eg]
  generalize (if 0 < rLe (lastR rs) then 1 else 0) = gp at *
  rw [zN_sub (by omega), zN_sub (by omega), zN_sub (by omega), if_neg (fun x => by have := (zN_lt (by omega) (by omega)).mp x; omega), bnd, zN_add1, zN_add, zN_add, zN_add]
  show LGX11_laysRows_69 f _ _ _ (zI ((stW E j + o + (E j - o + 1) : Nat) : Int)) _ = _
  rw [show stW E j + o + (E j - o + 1) = stW E (j + 1) by rw [stW]; omega]
/-- a new row for a word that doesn't fit -/
theorem it_new (hl : LM M k len B) (hw : WL len cnt lt B E) (hs : LSt M W ro) (hr : RM M rs) (h0 : 0 < rs.1) (hN : rs.1 < 960) (hj : j < cnt) (hE : 0 < E j) (hle : 0 < rLe (lastR rs)) (hle2 : rCo (lastR rs) + rLe (lastR rs) ≤ W) (hk : rLn (lastR rs) = k) (hix : rs.1 = fst + rIx (lastR rs) + 1) (hfit : W < rCo (lastR rs) + rLe (lastR rs) + 1 + E j) (hb : base ≤ 1000) (f : Nat) : ∃ N, LGX11_laysRows_69 (f + 1) (zI k) (zI base) (zI fst) (zI ((stW E j : Nat) : Int)) M = LGX11_laysRows_69 f (zI k) (zI base) (zI fst) (zI ((stW E j : Nat) : Int)) N ∧ RM N (nxR rs (min (base + ro) (W - 6)) (stW E j) 0) ∧ FR M N := by
  have l1 := (hw.2.1 (by omega)).1
  have lj := stW_m E (show j < cnt from hj)
  have hlen := hl.2.1
  obtain ⟨s1, s2, s3, s4, s5⟩ := hs
  obtain ⟨N, n1, n2, n3⟩ := g_begins (ln := k) (idx := rIx (lastR rs) + 1) (col := base + ro) (fr := stW E j) (wi := 0) hr hN s1 s4 s3 (by omega)
  have e0 : LGX11_laysRows_69 (f + 1) (zI k) (zI base) (zI fst) (zI ((stW E j : Nat) : Int)) M = _ := it_0 (o := 0) (base := base) (fst := fst) hl hw ⟨s1, s2, s3, s4, s5⟩ hr h0 (by omega) hj hE (by omega) f
  refine ⟨N, ?_, by rw [nxR, hk]; exact n2, n3⟩
  rw [e0]
  rw [if_pos hle]
  have en : (zI (W : Int) - zI (rCo (lastR rs)) - zI (rLe (lastR rs)) - 1 < zI ((E j - 0 : Nat) : Int)) := by
    rw [zN_sub (by omega), zN_sub (by omega), show (1 : Int32) = zI (1 : Int) from rfl, zI_sub, zI_lt (by omega) (by omega) (by omega) (by omega)]; omega
  rw [if_pos en, if_neg (by decide), zN_add, zN_sub (by omega), show rs.1 - fst = rIx (lastR rs) + 1 by omega]
  have n1' : g_X11_begins M (zI k) (zI ((rIx (lastR rs) + 1 : Nat) : Int)) (zI ((base + ro : Nat) : Int)) (zI ((stW E j + 0 : Nat) : Int)) 0 = some N := n1
  rw [n1', bnd, bnd]; rfl
/-- a word is cut -/
theorem it_cut (hl : LM M k len B) (hw : WL len cnt lt B E) (hs : LSt M W ro) (hr : RM M rs) (h0 : 0 < rs.1) (hN : rs.1 < 960) (hj : j < cnt) (ho : o < E j) (hle : rLe (lastR rs) = 0) (hco : rCo (lastR rs) + 6 ≤ W) (hk : rLn (lastR rs) = k) (hix : rs.1 = fst + rIx (lastR rs) + 1) (hfit : W - rCo (lastR rs) < E j - o) (hfr : rFr (lastR rs) = stW E j + o) (hb : base ≤ 1000) (f : Nat) : ∃ N, LGX11_laysRows_69 (f + 1) (zI k) (zI base) (zI fst) (zI ((stW E j + o : Nat) : Int)) M = LGX11_laysRows_69 f (zI k) (zI base) (zI fst) (zI ((stW E j + (o + (W - rCo (lastR rs))) : Nat) : Int)) N ∧ RM N (nxR (setL rs (W - rCo (lastR rs))) (min (base + ro) (W - 6)) (rFr (lastR rs) + (W - rCo (lastR rs))) 1) ∧ FR M N := by
  have l1 := (hw.2.1 (by omega)).1
  have lj := stW_m E (show j < cnt from hj)
  have hlen := hl.2.1
  obtain ⟨s1, s2, s3, s4, s5⟩ := hs
  obtain ⟨m1, m2⟩ := RM_setL hr h0 (W - rCo (lastR rs))
  obtain ⟨N, n1, n2, n3⟩ := g_begins (ln := k) (idx := rIx (lastR rs) + 1) (col := base + ro) (fr := stW E j + o + (W - rCo (lastR rs))) (wi := 1) m1 hN ((m2.1 0 _ (by omega)).trans s1) s4 s3 (by omega)
  have e0 := it_0 (base := base) (fst := fst) hl hw ⟨s1, s2, s3, s4, s5⟩ hr h0 (by omega) hj ho (by omega) f
  have er : rLn (lastR (setL rs (W - rCo (lastR rs)))) = k ∧ rIx (lastR (setL rs (W - rCo (lastR rs)))) = rIx (lastR rs) := by rw [lastR_set]; exact ⟨hk, rfl⟩
  refine ⟨N, ?_, by rw [nxR, er.1, er.2, hfr]; exact n2, FR_trans m2 n3⟩
  have e3 : zI (W : Int) - zI (rCo (lastR rs)) - zI ((0 : Nat) : Int) - 0 = zI ((W - rCo (lastR rs) : Nat) : Int) := by
    rw [show (0 : Int32) = zI ((0 : Nat) : Int) from rfl, zN_sub (by omega), zN_sub (by omega), zN_sub (by omega)]; rfl
  rw [e0, hle]
  simp only [Nat.lt_irrefl, if_false]
  rw [e3, if_pos ((zN_lt (by omega) (by omega)).mpr hfit), if_pos (by decide), zN_add, zN_add, zN_sub (by omega), show rs.1 - fst = rIx (lastR rs) + 1 by omega]
  have n1' : g_X11_begins (eA M 7 (rs.1 - 1) (zI ((W - rCo (lastR rs) : Nat) : Int))) (zI k) (zI ((rIx (lastR rs) + 1 : Nat) : Int)) (zI ((base + ro : Nat) : Int)) (zI ((stW E j + o + (W - rCo (lastR rs)) : Nat) : Int)) 1 = some N := n1
  rw [n1', bnd, bnd, Nat.add_assoc]
end ROWS
section ROWS
variable {k len cnt lt W ro base fst j : Nat} {B : Nat → Int32} {E : Nat → Nat}
/-- the reference cuts a word as cutS does, and puts what is left -/
theorem g_cut (hw : WL len cnt lt B E) (hj : j < cnt) (hb : base ≤ 1000) (hf : fst ≤ 480) : ∀ (d l o : Nat) (rs : RS) (fp : Nat) (M : MS) (f : Nat), LM M k len B → LSt M W ro → RM M rs → RI k W (min (base + ro) (W - 6)) rs fp → rLe (lastR rs) = 0 → 1 ≤ l → l ≤ 6 * d → o + l = E j → rFr (lastR rs) = stW E j + o → rs.1 = fst + rIx (lastR rs) + 1 → (0 < rIx (lastR rs) → fp + 8 ≤ rFr (lastR rs) + l + 1 ∧ fp + 2 ≤ rFr (lastR rs)) →
    ∃ N f', f ≤ f' ∧ LGX11_laysRows_69 (f + d + 1) (zI k) (zI base) (zI fst) (zI ((stW E j + o : Nat) : Int)) M = LGX11_laysRows_69 f' (zI k) (zI base) (zI fst) (zI (stW E (j + 1))) N ∧ RM N (setL (cutS W (min (base + ro) (W - 6)) d l rs).2 (cutS W (min (base + ro) (W - 6)) d l rs).1) ∧ FR M N := by
  intro d
  induction d with
  | zero => intro l o rs fp M f _ _ _ _ _ h1 h2; omega
  | succ d ih =>
    intro l o rs fp M f hl hs hr hri h0 h1 h2 h3 h4 h5 h6
    have l1 := (hw.2.1 (by omega)).1
    have lj := stW_m E (show j < cnt from hj)
    have hlen := hl.2.1
    obtain ⟨a1, a2, a3, a4, a5, a6⟩ := id hri
    by_cases q : W - rCo (lastR rs) < l
    · obtain ⟨N, n1, n2, n3⟩ := it_cut (fst := fst) hl hw hs hr a1 (by omega) hj (o := o) (by omega) h0 a2 a4 h5 (by omega) h4 hb (f + d + 1)
      have e : cutS W (min (base + ro) (W - 6)) (d + 1) l rs = cutS W (min (base + ro) (W - 6)) d (l - (W - rCo (lastR rs))) (nxR (setL rs (W - rCo (lastR rs))) (min (base + ro) (W - 6)) (rFr (lastR rs) + (W - rCo (lastR rs))) 1) := by rw [cutS, if_pos q]
      rw [e]
      generalize hrs : nxR (setL rs (W - rCo (lastR rs))) (min (base + ro) (W - 6)) (rFr (lastR rs) + (W - rCo (lastR rs))) 1 = rs2 at *
      have eL : lastR rs2 = (rLn (lastR rs), rIx (lastR rs) + 1, min (base + ro) (W - 6), rFr (lastR rs) + (W - rCo (lastR rs)), 0, 1) := by rw [← hrs, nxR, lastR_add, lastR_set]; rfl
      have eN : rs2.1 = rs.1 + 1 := by rw [← hrs]; rfl
      have e1 : rIx (lastR rs2) = rIx (lastR rs) + 1 := by rw [eL]; rfl
      have e2 : rFr (lastR rs2) = rFr (lastR rs) + (W - rCo (lastR rs)) := by rw [eL]; rfl
      have e3 : rCo (lastR rs2) = min (base + ro) (W - 6) := by rw [eL]; rfl
      have e4 : rLe (lastR rs2) = 0 := by rw [eL]; rfl
      have e5 : rLn (lastR rs2) = k := by rw [eL]; exact a4
      have hri2 : RI k W (min (base + ro) (W - 6)) rs2 (rFr (lastR rs)) := by
        refine ⟨by omega, by omega, a3, e5, ?_, fun _ => ?_⟩
        · rw [e1, e2]
          by_cases z : 0 < rIx (lastR rs)
          · have := (h6 z).2; have := a6 z; omega
          · omega
        · rw [e1, Nat.add_sub_cancel]; exact a5
      obtain ⟨N2, f', b1, b2, b3, b4⟩ := ih (l - (W - rCo (lastR rs))) (o + (W - rCo (lastR rs))) rs2 (rFr (lastR rs)) N f (LM_FR hl n3) (LSt_FR hs n3) n2 hri2 e4 (by omega) (by omega) (by omega) (by omega) (by omega) (fun _ => by rw [e2]; omega)
      exact ⟨N2, f', b1, (show f + (d + 1) + 1 = f + d + 1 + 1 by omega) ▸ n1.trans b2, b3, FR_trans n3 b4⟩
    · have e : cutS W (min (base + ro) (W - 6)) (d + 1) l rs = (l, rs) := by rw [cutS, if_neg q]
      rw [e]
      have hfit := it_fit (base := base) (fst := fst) hl hw hs hr a1 (by omega) hj (o := o) (by omega) (by omega) (by have := hs.2.2.2.1; omega) (by rw [h0]; simp only [Nat.lt_irrefl, if_false]; omega) (f + d + 1)
      rw [h0] at hfit
      simp only [Nat.lt_irrefl, if_false, Nat.zero_add] at hfit
      obtain ⟨m1, m2⟩ := RM_setL hr a1 l
      exact ⟨_, f + d + 1, by omega, (show f + (d + 1) + 1 = f + d + 1 + 1 by omega) ▸ (show E j - o = l by omega) ▸ hfit, (show E j - o = l by omega) ▸ m1, (show E j - o = l by omega) ▸ m2⟩
/-- the reference puts a word as wordS does -/
theorem g_rword (hw : WL len cnt lt B E) (hj : j < cnt) (hb : base ≤ 1000) (hf : fst ≤ 480) {rs : RS} {fp : Nat} {M : MS} (f : Nat) (hl : LM M k len B) (hs : LSt M W ro) (hr : RM M rs) (hrb : RB k W (min (base + ro) (W - 6)) rs fp (stW E j)) (hix : rs.1 = fst + rIx (lastR rs) + 1) :
    ∃ N f', f ≤ f' ∧ LGX11_laysRows_69 (f + 20) (zI k) (zI base) (zI fst) (zI (stW E j)) M = LGX11_laysRows_69 f' (zI k) (zI base) (zI fst) (zI (stW E (j + 1))) N ∧ RM N (wordS W (min (base + ro) (W - 6)) (E j) (stW E j) rs) ∧ FR M N := by
  have l1 := (hw.2.1 (by omega)).1
  have lj := stW_m E (show j < cnt from hj)
  have hlen := hl.2.1
  have hE := hw.2.2.1 j hj
  obtain ⟨⟨a1, a2, a3, a4, a5, a6⟩, a7, a8⟩ := id hrb
  have hW := hs.2.2.2.1
  have hfr : rFr (lastR rs) ≤ 80 := by rcases a7 with a7 | a7 <;> omega
  by_cases q : 0 < rLe (lastR rs) ∧ rCo (lastR rs) + rLe (lastR rs) + 1 + E j ≤ W
  · have e : wordS W (min (base + ro) (W - 6)) (E j) (stW E j) rs = setL rs (rLe (lastR rs) + 1 + E j) := by rw [wordS, if_pos q]
    rw [e]
    have hfit : LGX11_laysRows_69 (f + 19 + 1) (zI k) (zI base) (zI fst) (zI (stW E j)) M = _ := it_fit (o := 0) (base := base) (fst := fst) hl hw hs hr a1 (by omega) hj (by omega) (by omega) (by omega) (by rw [if_pos q.1]; omega) (f + 19)
    obtain ⟨m1, m2⟩ := RM_setL hr a1 (rLe (lastR rs) + 1 + E j)
    have en : rLe (lastR rs) + ((if 0 < rLe (lastR rs) then 1 else 0) + (E j - 0)) = rLe (lastR rs) + 1 + E j := by rw [if_pos q.1]; omega
    rw [en] at hfit
    exact ⟨_, f + 19, by omega, hfit, m1, m2⟩
  · by_cases z : 0 < rLe (lastR rs)
    · have e : wordS W (min (base + ro) (W - 6)) (E j) (stW E j) rs = putS W (min (base + ro) (W - 6)) (E j) (nxR rs (min (base + ro) (W - 6)) (stW E j) 0) := by rw [wordS, if_neg q, if_pos z]
      obtain ⟨N, n1, n2, n3⟩ := it_new (base := base) (fst := fst) hl hw hs hr a1 (by omega) hj (by omega) z a8 a4 hix (by omega) hb (f + 19)
      generalize hrs : nxR rs (min (base + ro) (W - 6)) (stW E j) 0 = rs2 at *
      have eL : lastR rs2 = (rLn (lastR rs), rIx (lastR rs) + 1, min (base + ro) (W - 6), stW E j, 0, 0) := by rw [← hrs, nxR, lastR_add]
      have f1 : rLn (lastR rs2) = rLn (lastR rs) := by rw [eL]; rfl
      have f2 : rIx (lastR rs2) = rIx (lastR rs) + 1 := by rw [eL]; rfl
      have f3 : rCo (lastR rs2) = min (base + ro) (W - 6) := by rw [eL]; rfl
      have f4 : rFr (lastR rs2) = stW E j := by rw [eL]; rfl
      have f5 : rLe (lastR rs2) = 0 := by rw [eL]; rfl
      have f6 : rs2.1 = rs.1 + 1 := by rw [← hrs]; rfl
      rcases a7 with a7 | a7
      · omega
      · have hri : RI k W (min (base + ro) (W - 6)) rs2 (rFr (lastR rs)) := by
          refine ⟨by omega, by omega, a3, by omega, ?_, fun _ => by rw [f2, Nat.add_sub_cancel]; exact a5⟩
          rw [f2, f4]
          by_cases y : 0 < rIx (lastR rs)
          · have := a7.2.2 y; have := a6 y; omega
          · omega
        obtain ⟨N2, f', b1, b2, b3, b4⟩ := g_cut hw hj hb hf 16 (E j) 0 rs2 (rFr (lastR rs)) N (f + 2) (LM_FR hl n3) (LSt_FR hs n3) n2 hri f5 hE (by omega) (by omega) (by omega) (by omega) (fun _ => by omega)
        have b2' : LGX11_laysRows_69 (f + 19) (zI k) (zI base) (zI fst) (zI ((stW E j : Nat) : Int)) N = _ := b2
        exact ⟨N2, f', by omega, n1.trans b2', by rw [e]; exact b3, FR_trans n3 b4⟩
    · have e : wordS W (min (base + ro) (W - 6)) (E j) (stW E j) rs = putS W (min (base + ro) (W - 6)) (E j) rs := by rw [wordS, if_neg q, if_neg z]
      rcases a7 with a7 | a7
      · obtain ⟨N2, f', b1, b2, b3, b4⟩ := g_cut hw hj hb hf 16 (E j) 0 rs fp M (f + 3) hl hs hr ⟨a1, a2, a3, a4, a5, a6⟩ a7.1 hE (by omega) (by omega) (by omega) hix (fun y => by omega)
        have b2' : LGX11_laysRows_69 (f + 20) (zI k) (zI base) (zI fst) (zI ((stW E j : Nat) : Int)) M = _ := b2
        exact ⟨N2, f', by omega, b2', by rw [e]; exact b3, b4⟩
      · omega
/-- and all words from j on -/
theorem g_rwords (hw : WL len cnt lt B E) (hb : base ≤ 1000) (hf : fst ≤ 480) : ∀ (d j : Nat) (rs : RS) (fp : Nat) (M : MS) (f : Nat), j + d = cnt → 0 < cnt → LM M k len B → LSt M W ro → RM M rs → RB k W (min (base + ro) (W - 6)) rs fp (stW E j) → rs.1 = fst + rIx (lastR rs) + 1 →
    ∃ N fp', LGX11_laysRows_69 (f + 20 * d + 1) (zI k) (zI base) (zI fst) (zI (stW E j)) M = some N ∧ RM N (wordsS W (min (base + ro) (W - 6)) E d j rs) ∧ FR M N ∧ RB k W (min (base + ro) (W - 6)) (wordsS W (min (base + ro) (W - 6)) E d j rs) fp' (stW E cnt) ∧ (wordsS W (min (base + ro) (W - 6)) E d j rs).1 = fst + rIx (lastR (wordsS W (min (base + ro) (W - 6)) E d j rs)) + 1 := by
  intro d
  induction d with
  | zero =>
    intro j rs fp M f hj hc hl hs hr hrb hix
    have ej : j = cnt := by omega
    subst ej
    have l1 := (hw.2.1 hc).1
    have hlen := hl.2.1
    have g0 : g_X11_of M (zI k) 0 = some (zI len) := by
      rw [show (0 : Int32) = zI ((0 : Nat) : Int) from rfl, g_of hl.1 (by omega), Nat.add_zero, hl.2.2.1]
    refine ⟨M, fp, ?_, hr, FR_refl M, hrb, hix⟩
    rw [LGX11_laysRows_69, g0, bnd, if_pos ((zN_le (by omega) (by omega)).mpr (by omega))]
  | succ d ih =>
    intro j rs fp M f hj hc hl hs hr hrb hix
    have hlen := hl.2.1
    have l1 := (hw.2.1 hc).1
    have lj := stW_m E (show j < cnt by omega)
    obtain ⟨N, f', b1, b2, b3, b4⟩ := g_rword hw (show j < cnt by omega) hb hf (f + 20 * d + 1) hl hs hr hrb hix
    obtain ⟨fp', c1, c2, c3⟩ := word_ok hrb (hw.2.2.1 j (by omega)) (by omega)
    obtain ⟨N2, fp2, d1, d2, d3, d4, d5⟩ := ih (j + 1) _ fp' N (f' - 20 * d - 1) (by omega) hc (LM_FR hl b4) (LSt_FR hs b4) b3 c1 (by omega)
    refine ⟨N2, fp2, ?_, d2, FR_trans b4 d3, d4, d5⟩
    rw [show f + 20 * (d + 1) + 1 = f + 20 * d + 1 + 20 by omega, b2, show f' = f' - 20 * d - 1 + 20 * d + 1 by omega]
    exact d1
end ROWS

/-- a row: line, part, column, first byte, length, 1 if within a word -/
abbrev RT : Type := Nat × Nat × Nat × Nat × Nat × Nat
def rLn (r : RT) : Nat := r.1
def rIx (r : RT) : Nat := r.2.1
def rCo (r : RT) : Nat := r.2.2.1
def rFr (r : RT) : Nat := r.2.2.2.1
def rLe (r : RT) : Nat := r.2.2.2.2.1
def rWi (r : RT) : Nat := r.2.2.2.2.2
/-- rows: how many, and what they are -/
abbrev RS : Type := Nat × (Nat → RT)
def lastR (rs : RS) : RT := rs.2 (rs.1 - 1)
def addR (rs : RS) (r : RT) : RS := (rs.1 + 1, fun i => if i = rs.1 then r else rs.2 i)
def wLe (r : RT) (v : Nat) : RT := (r.1, r.2.1, r.2.2.1, r.2.2.2.1, v, r.2.2.2.2.2)
def setL (rs : RS) (v : Nat) : RS := (rs.1, fun i => if i = rs.1 - 1 then wLe (rs.2 i) v else rs.2 i)
theorem lastR_add (rs : RS) (r : RT) : lastR (addR rs r) = r := by
  show (if rs.1 + 1 - 1 = rs.1 then r else _) = r
  rw [if_pos (by omega)]
theorem lastR_set (rs : RS) (v : Nat) : lastR (setL rs v) = wLe (lastR rs) v := by
  show (if rs.1 - 1 = rs.1 - 1 then wLe (rs.2 (rs.1 - 1)) v else _) = _
  rw [if_pos rfl]; rfl
/-- the row behind the last one, of the same line -/
def nxR (rs : RS) (c1 fr wi : Nat) : RS := addR rs (rLn (lastR rs), rIx (lastR rs) + 1, c1, fr, 0, wi)
/-- a word is cut as often as it is too long -/
def cutS (W c1 : Nat) : Nat → Nat → RS → Nat × RS
  | 0, l, rs => (l, rs)
  | d + 1, l, rs => if W - rCo (lastR rs) < l then cutS W c1 d (l - (W - rCo (lastR rs))) (nxR (setL rs (W - rCo (lastR rs))) c1 (rFr (lastR rs) + (W - rCo (lastR rs))) 1) else (l, rs)
def putS (W c1 n : Nat) (rs : RS) : RS := setL (cutS W c1 16 n rs).2 (cutS W c1 16 n rs).1
/-- a word of n letters from byte fr on -/
def wordS (W c1 n fr : Nat) (rs : RS) : RS :=
  if 0 < rLe (lastR rs) ∧ rCo (lastR rs) + rLe (lastR rs) + 1 + n ≤ W then setL rs (rLe (lastR rs) + 1 + n)
  else putS W c1 n (if 0 < rLe (lastR rs) then nxR rs c1 fr 0 else rs)
/-- d words from word j on -/
def wordsS (W c1 : Nat) (E : Nat → Nat) : Nat → Nat → RS → RS
  | 0, _, rs => rs
  | d + 1, j, rs => wordsS W c1 E d (j + 1) (wordS W c1 (E j) (stW E j) rs)
/-- the rows of a line are at most 20: f0 where the row ahead begins; any two rows hold 8 bytes -/
def RI (k W c1 : Nat) (rs : RS) (fp : Nat) : Prop := 0 < rs.1 ∧ rCo (lastR rs) + 6 ≤ W ∧ c1 + 6 ≤ W ∧ rLn (lastR rs) = k ∧ 8 * (rIx (lastR rs) / 2) ≤ rFr (lastR rs) ∧ (0 < rIx (lastR rs) → 8 * ((rIx (lastR rs) - 1) / 2) ≤ fp)
/-- what cutting keeps: n letters are to be put from byte rFr on -/
theorem cut_ok {k W c1 : Nat} : ∀ d l rs fp, RI k W c1 rs fp → rLe (lastR rs) = 0 → 1 ≤ l → l ≤ 6 * d → (0 < rIx (lastR rs) → fp + 8 ≤ rFr (lastR rs) + l + 1 ∧ fp + 2 ≤ rFr (lastR rs)) →
    ∃ fp', RI k W c1 (cutS W c1 d l rs).2 fp' ∧ rLe (lastR (cutS W c1 d l rs).2) = 0 ∧ 1 ≤ (cutS W c1 d l rs).1 ∧ (cutS W c1 d l rs).1 + rCo (lastR (cutS W c1 d l rs).2) ≤ W ∧ rFr (lastR (cutS W c1 d l rs).2) + (cutS W c1 d l rs).1 = rFr (lastR rs) + l ∧ (0 < rIx (lastR (cutS W c1 d l rs).2) → fp' + 8 ≤ rFr (lastR (cutS W c1 d l rs).2) + (cutS W c1 d l rs).1 + 1) ∧ (cutS W c1 d l rs).2.1 + rIx (lastR rs) = rs.1 + rIx (lastR (cutS W c1 d l rs).2) := by
  intro d
  induction d with
  | zero => intro l rs fp _ _ h1 h2 _; omega
  | succ d ih =>
    intro l rs fp h h0 h1 h2 h3
    obtain ⟨a1, a2, a3, a4, a5, a6⟩ := h
    by_cases q : W - rCo (lastR rs) < l
    · have e : cutS W c1 (d + 1) l rs = cutS W c1 d (l - (W - rCo (lastR rs))) (nxR (setL rs (W - rCo (lastR rs))) c1 (rFr (lastR rs) + (W - rCo (lastR rs))) 1) := by rw [cutS, if_pos q]
      rw [e]
      generalize hrs : nxR (setL rs (W - rCo (lastR rs))) c1 (rFr (lastR rs) + (W - rCo (lastR rs))) 1 = rs2
      have eL : lastR rs2 = (rLn (lastR rs), rIx (lastR rs) + 1, c1, rFr (lastR rs) + (W - rCo (lastR rs)), 0, 1) := by rw [← hrs, nxR, lastR_add, lastR_set]; rfl
      have eN : rs2.1 = rs.1 + 1 := by rw [← hrs]; rfl
      have e1 : rIx (lastR rs2) = rIx (lastR rs) + 1 := by rw [eL]; rfl
      have e2 : rFr (lastR rs2) = rFr (lastR rs) + (W - rCo (lastR rs)) := by rw [eL]; rfl
      have e3 : rCo (lastR rs2) = c1 := by rw [eL]; rfl
      have e4 : rLe (lastR rs2) = 0 := by rw [eL]; rfl
      have e5 : rLn (lastR rs2) = k := by rw [eL]; exact a4
      have hri : RI k W c1 rs2 (rFr (lastR rs)) := by
        refine ⟨by omega, by omega, a3, e5, ?_, fun _ => ?_⟩
        · rw [e1, e2]
          by_cases z : 0 < rIx (lastR rs)
          · have := (h3 z).2; have := a6 z; omega
          · omega
        · rw [e1, Nat.add_sub_cancel]; exact a5
      obtain ⟨fp', b1, b2, b3, b4, b5, b6, b7⟩ := ih (l - (W - rCo (lastR rs))) rs2 (rFr (lastR rs)) hri e4 (by omega) (by omega) (fun _ => by rw [e2]; omega)
      exact ⟨fp', b1, b2, b3, b4, by rw [b5, e2]; omega, b6, by omega⟩
    · have e : cutS W c1 (d + 1) l rs = (l, rs) := by rw [cutS, if_neg q]
      rw [e]
      exact ⟨fp, ⟨a1, a2, a3, a4, a5, a6⟩, h0, h1, by show l + rCo (lastR rs) ≤ W; omega, rfl, fun z => (h3 z).1, by show rs.1 + _ = _; rfl⟩
/-- at a word's boundary: fr is where the next word begins -/
def RB (k W c1 : Nat) (rs : RS) (fp fr : Nat) : Prop := RI k W c1 rs fp ∧ ((rLe (lastR rs) = 0 ∧ rFr (lastR rs) = fr ∧ rIx (lastR rs) = 0) ∨ (0 < rLe (lastR rs) ∧ rFr (lastR rs) + rLe (lastR rs) + 1 = fr ∧ (0 < rIx (lastR rs) → fp + 8 ≤ fr))) ∧ rCo (lastR rs) + rLe (lastR rs) ≤ W
theorem word_ok {k W c1 n fr fp : Nat} {rs : RS} (h : RB k W c1 rs fp fr) (hn : 1 ≤ n) (hn2 : n ≤ 80) : ∃ fp', RB k W c1 (wordS W c1 n fr rs) fp' (fr + n + 1) ∧ 0 < rLe (lastR (wordS W c1 n fr rs)) ∧ (wordS W c1 n fr rs).1 + rIx (lastR rs) = rs.1 + rIx (lastR (wordS W c1 n fr rs)) := by
  obtain ⟨⟨a1, a2, a3, a4, a5, a6⟩, a7, a8⟩ := h
  by_cases q : 0 < rLe (lastR rs) ∧ rCo (lastR rs) + rLe (lastR rs) + 1 + n ≤ W
  · have e : wordS W c1 n fr rs = setL rs (rLe (lastR rs) + 1 + n) := by rw [wordS, if_pos q]
    have eL : lastR (wordS W c1 n fr rs) = wLe (lastR rs) (rLe (lastR rs) + 1 + n) := by rw [e, lastR_set]
    have f1 : rLn (lastR (wordS W c1 n fr rs)) = rLn (lastR rs) := by rw [eL]; rfl
    have f2 : rIx (lastR (wordS W c1 n fr rs)) = rIx (lastR rs) := by rw [eL]; rfl
    have f3 : rCo (lastR (wordS W c1 n fr rs)) = rCo (lastR rs) := by rw [eL]; rfl
    have f4 : rFr (lastR (wordS W c1 n fr rs)) = rFr (lastR rs) := by rw [eL]; rfl
    have f5 : rLe (lastR (wordS W c1 n fr rs)) = rLe (lastR rs) + 1 + n := by rw [eL]; rfl
    have f6 : (wordS W c1 n fr rs).1 = rs.1 := by rw [e]; rfl
    refine ⟨fp, ⟨⟨by omega, by omega, a3, by omega, by rw [f2, f4]; exact a5, fun z => by rw [f2] at z ⊢; exact a6 z⟩, Or.inr ⟨by omega, by omega, fun z => ?_⟩, by omega⟩, by omega, by omega⟩
    rw [f2] at z
    rcases a7 with a7 | a7
    · omega
    · have := a7.2.2 z; omega
  · have hcut : ∀ rs1 fp1, RI k W c1 rs1 fp1 → rLe (lastR rs1) = 0 → rFr (lastR rs1) = fr → (0 < rIx (lastR rs1) → fp1 + 8 ≤ rFr (lastR rs1) + n + 1 ∧ fp1 + 2 ≤ rFr (lastR rs1)) → rs1.1 + rIx (lastR rs) = rs.1 + rIx (lastR rs1) → wordS W c1 n fr rs = putS W c1 n rs1 →
      ∃ fp', RB k W c1 (wordS W c1 n fr rs) fp' (fr + n + 1) ∧ 0 < rLe (lastR (wordS W c1 n fr rs)) ∧ (wordS W c1 n fr rs).1 + rIx (lastR rs) = rs.1 + rIx (lastR (wordS W c1 n fr rs)) := by
      intro rs1 fp1 c1' c2 c3 c4 c5 c6
      obtain ⟨fp', b1, b2, b3, b4, b5, b6, b7⟩ := cut_ok 16 n rs1 fp1 c1' c2 hn (by omega) c4
      rw [c6, putS]
      generalize hr : cutS W c1 16 n rs1 = r at *
      have eL : lastR (setL r.2 r.1) = wLe (lastR r.2) r.1 := lastR_set _ _
      have f1 : rLn (lastR (setL r.2 r.1)) = rLn (lastR r.2) := by rw [eL]; rfl
      have f2 : rIx (lastR (setL r.2 r.1)) = rIx (lastR r.2) := by rw [eL]; rfl
      have f3 : rCo (lastR (setL r.2 r.1)) = rCo (lastR r.2) := by rw [eL]; rfl
      have f4 : rFr (lastR (setL r.2 r.1)) = rFr (lastR r.2) := by rw [eL]; rfl
      have f5 : rLe (lastR (setL r.2 r.1)) = r.1 := by rw [eL]; rfl
      have f6 : (setL r.2 r.1).1 = r.2.1 := rfl
      obtain ⟨d1, d2, d3, d4, d5, d6⟩ := b1
      exact ⟨fp', ⟨⟨by omega, by omega, d3, by omega, by rw [f2, f4]; exact d5, fun z => by rw [f2] at z ⊢; exact d6 z⟩, Or.inr ⟨by omega, by omega, fun z => by have := b6 (by omega); omega⟩, by omega⟩, by omega, by omega⟩
    by_cases z : 0 < rLe (lastR rs)
    · have e : wordS W c1 n fr rs = putS W c1 n (nxR rs c1 fr 0) := by rw [wordS, if_neg q, if_pos z]
      have eL : lastR (nxR rs c1 fr 0) = (rLn (lastR rs), rIx (lastR rs) + 1, c1, fr, 0, 0) := by rw [nxR, lastR_add]
      have f1 : rLn (lastR (nxR rs c1 fr 0)) = rLn (lastR rs) := by rw [eL]; rfl
      have f2 : rIx (lastR (nxR rs c1 fr 0)) = rIx (lastR rs) + 1 := by rw [eL]; rfl
      have f3 : rCo (lastR (nxR rs c1 fr 0)) = c1 := by rw [eL]; rfl
      have f4 : rFr (lastR (nxR rs c1 fr 0)) = fr := by rw [eL]; rfl
      have f5 : rLe (lastR (nxR rs c1 fr 0)) = 0 := by rw [eL]; rfl
      have f6 : (nxR rs c1 fr 0).1 = rs.1 + 1 := rfl
      rcases a7 with a7 | a7
      · omega
      · refine hcut _ (rFr (lastR rs)) ⟨by omega, by omega, a3, by omega, ?_, fun _ => by rw [f2, Nat.add_sub_cancel]; exact a5⟩ f5 f4 (fun _ => by omega) (by omega) e
        rw [f2, f4]
        by_cases y : 0 < rIx (lastR rs)
        · have := a7.2.2 y; have := a6 y; omega
        · omega
    · have e : wordS W c1 n fr rs = putS W c1 n rs := by rw [wordS, if_neg q, if_neg z]
      rcases a7 with a7 | a7
      · exact hcut rs fp ⟨a1, a2, a3, a4, a5, a6⟩ a7.1 a7.2.1 (fun y => by omega) rfl e
      · omega
theorem zN_sub {a b : Nat} (h : b ≤ a) : zI (a : Int) - zI b = zI ((a - b : Nat) : Int) := by rw [zI_sub]; congr 1; omega
section ROWS
variable {M : MS} {rs : RS} {k len cnt lt W ro base fst j o : Nat} {B : Nat → Int32} {E : Nat → Nat}
end ROWS
section ROWS
variable {k len cnt lt W ro base fst j : Nat} {B : Nat → Int32} {E : Nat → Nat}
end ROWS

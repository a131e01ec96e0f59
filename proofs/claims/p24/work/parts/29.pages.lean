/-- pages: page, place, whether the page is empty; page and place of each row -/
abbrev QS : Type := Nat × Nat × Bool × (Nat → Nat) × (Nat → Nat)
def qPg (s : QS) : Nat := s.1
def qPl (s : QS) : Nat := s.2.1
def qE (s : QS) : Bool := s.2.2.1
def qF (s : QS) : Nat → Nat := s.2.2.2.1
def qL (s : QS) : Nat → Nat := s.2.2.2.2
def tnQ (s : QS) : QS := (qPg s + 1, 0, true, qF s, qL s)
def rowQ0 (H : Nat) (s : QS) : QS := if qPl s = H then tnQ s else s
def rowQ (H r : Nat) (s : QS) : QS := (qPg (rowQ0 H s), qPl (rowQ0 H s) + 1, false, fun i => if i = r then qPg (rowQ0 H s) else qF s i, fun i => if i = r then qPl (rowQ0 H s) else qL s i)
def rowsQ (H : Nat) : Nat → Nat → QS → QS
  | 0, _, s => s
  | d + 1, r, s => rowsQ H d (r + 1) (rowQ H r s)
/-- before a line's rows: n its rows, all those of its stanza -/
def headQ (H K n all : Nat) (bg : Bool) (s : QS) : QS :=
  if bg = true then
    (if qE s = true then s else if H < qPl s + 1 + n ∨ (all ≤ K ∧ all ≤ H ∧ H < qPl s + 1 + all) then tnQ s else (qPg s, qPl s + 1, qE s, qF s, qL s))
  else (if qE s = false ∧ H < qPl s + n then tnQ s else s)
def lineQ (P : PoT) (W H k : Nat) (s : QS) : QS := rowsQ H (lrS P W k) (layA P W k).1 (headQ H (P.2.2 4) (lrS P W k) (srS P W P.2.1 (szO P k)) (bgS P k) s)
def pagQ (P : PoT) (W H : Nat) : Nat → QS
  | 0 => (0, 0, true, fun _ => 0, fun _ => 0)
  | k + 1 => lineQ P W H k (pagQ P W H k)
theorem rowsQ_pl (H : Nat) (hH : 4 ≤ H) : ∀ d r s, qPl s ≤ H → qPl (rowsQ H d r s) ≤ H := by
  intro d
  induction d with
  | zero => intro r s h; exact h
  | succ d ih =>
    intro r s h
    refine ih (r + 1) _ ?_
    show qPl (rowQ0 H s) + 1 ≤ H
    unfold rowQ0; split
    · show 0 + 1 ≤ H; omega
    · omega
theorem szN_mono (P : PoT) {i j : Nat} (h : i ≤ j) : szN P i ≤ szN P j := by
  induction h with
  | refl => exact Nat.le_refl _
  | step _ ih => rw [szN]; split <;> omega
theorem words_ok {k W c1 cnt fst : Nat} {E : Nat → Nat} (hE : ∀ j, j < cnt → 1 ≤ E j ∧ E j ≤ 80) : ∀ (d j : Nat) (rs : RS) (fp : Nat), j + d = cnt → RB k W c1 rs fp (stW E j) → rs.1 = fst + rIx (lastR rs) + 1 → (d = 0 → 0 < rLe (lastR rs)) →
    ∃ fp', RB k W c1 (wordsS W c1 E d j rs) fp' (stW E cnt) ∧ (wordsS W c1 E d j rs).1 = fst + rIx (lastR (wordsS W c1 E d j rs)) + 1 ∧ 0 < rLe (lastR (wordsS W c1 E d j rs)) := by
  intro d
  induction d with
  | zero => intro j rs fp hj h hi hl; rw [show cnt = j by omega]; exact ⟨fp, h, hi, hl rfl⟩
  | succ d ih =>
    intro j rs fp hj h hi hl
    obtain ⟨e1, e2⟩ := hE j (by omega)
    obtain ⟨fp', c1', c2, c3⟩ := word_ok h e1 e2
    exact ih (j + 1) _ fp' (by omega) c1' (by omega) (fun _ => c2)
theorem layL_ok {P : PoT} (ho : okP P) {W k : Nat} (hW : 12 ≤ W) (hW2 : W ≤ 60) (hk : k < P.2.1) (rs : RS) : ∃ fp, RB k W (c1S P W k) (layL P W k rs) fp (nLen (P.1 k) + 1) ∧ (layL P W k rs).1 = rs.1 + rIx (lastR (layL P W k rs)) + 1 ∧ rIx (lastR (layL P W k rs)) ≤ 19 := by
  obtain ⟨o1, o2, o3, o4, o5, o6, o7⟩ := ho.2.1 k hk
  have l1 := (o4.2.1 o2).1
  have eL : lastR (addR rs (k, 0, c0S P W k rs, 0, 0, 0)) = (k, 0, c0S P W k rs, 0, 0, 0) := lastR_add _ _
  have hc0 : c0S P W k rs + 6 ≤ W := by unfold c0S; omega
  have hrb : RB k W (c1S P W k) (addR rs (k, 0, c0S P W k rs, 0, 0, 0)) 0 (stW (nE (P.1 k)) 0) := by
    refine ⟨⟨?_, ?_, ?_, ?_, ?_, ?_⟩, Or.inl ⟨?_, ?_, ?_⟩, ?_⟩
    · show 0 < rs.1 + 1; omega
    · rw [eL]; exact hc0
    · unfold c1S; omega
    · rw [eL]; rfl
    · rw [eL]; show 8 * (0 / 2) ≤ 0; omega
    · rw [eL]; intro x; exact absurd x (by show ¬ 0 < 0; omega)
    · rw [eL]; rfl
    · rw [eL]; rfl
    · rw [eL]; rfl
    · rw [eL]; show c0S P W k rs + 0 ≤ _; omega
  have hix : (addR rs (k, 0, c0S P W k rs, 0, 0, 0)).1 = rs.1 + rIx (lastR (addR rs (k, 0, c0S P W k rs, 0, 0, 0))) + 1 := by rw [eL]; rfl
  have hE : ∀ j, j < nCnt (P.1 k) → 1 ≤ nE (P.1 k) j ∧ nE (P.1 k) j ≤ 80 := fun j hj => ⟨o4.2.2.1 j hj, by have := stW_m (nE (P.1 k)) hj; omega⟩
  obtain ⟨fp, a1, a2, a3⟩ := words_ok (fst := rs.1) hE (nCnt (P.1 k)) 0 _ 0 (by omega) hrb hix (fun x => by omega)
  have ez : layL P W k rs = wordsS W (c1S P W k) (nE (P.1 k)) (nCnt (P.1 k)) 0 (addR rs (k, 0, c0S P W k rs, 0, 0, 0)) := rfl
  rw [← ez] at a1 a2 a3
  rw [← l1] at a1
  refine ⟨fp, a1, a2, ?_⟩
  obtain ⟨⟨b1, b2, b3, b4, b5, b6⟩, b7, b8⟩ := a1
  omega
/-- the rows of the first lines: how many; the last one -/
theorem layA_ok {P : PoT} (ho : okP P) {W : Nat} (hW : 12 ≤ W) (hW2 : W ≤ 60) : ∀ k, k ≤ P.2.1 → (layA P W k).1 ≤ 20 * k ∧ (0 < k → 0 < (layA P W k).1 ∧ rCo (lastR (layA P W k)) + rLe (lastR (layA P W k)) ≤ W ∧ rLn (lastR (layA P W k)) + 1 = k) ∧ (k < P.2.1 → (layA P W k).1 < (layA P W (k + 1)).1 ∧ (layA P W (k + 1)).1 ≤ (layA P W k).1 + 20)
  | 0, _ => by
    refine ⟨Nat.zero_le _, fun h => by omega, fun h => ?_⟩
    obtain ⟨fp, a1, a2, a3⟩ := layL_ok ho hW hW2 h (layA P W 0)
    have e : layA P W (0 + 1) = layL P W 0 (layA P W 0) := rfl
    rw [e]; omega
  | k + 1, hk => by
    obtain ⟨b1, b2, b3⟩ := layA_ok ho hW hW2 k (by omega)
    have b3 := b3 (by omega)
    obtain ⟨fp, a1, a2, a3⟩ := layL_ok ho hW hW2 (show k < P.2.1 by omega) (layA P W k)
    have e : layA P W (k + 1) = layL P W k (layA P W k) := rfl
    rw [← e] at a1 a2 a3
    obtain ⟨⟨c1, c2, c3, c4, c5, c6⟩, c7, c8⟩ := a1
    refine ⟨by omega, fun _ => ⟨by omega, c8, by omega⟩, fun h => ?_⟩
    obtain ⟨fp2, d1, d2, d3⟩ := layL_ok ho hW hW2 h (layA P W (k + 1))
    have e2 : layA P W (k + 1 + 1) = layL P W (k + 1) (layA P W (k + 1)) := rfl
    rw [e2]; omega

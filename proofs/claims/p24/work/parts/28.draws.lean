/-- a line: bytes, words, letters, steps, half, last, its bytes, its words' lengths -/
abbrev LnT : Type := Nat × Nat × Nat × Nat × Nat × Nat × (Nat → Int32) × (Nat → Nat)
def nLen (l : LnT) : Nat := l.1
def nCnt (l : LnT) : Nat := l.2.1
def nLt (l : LnT) : Nat := l.2.2.1
def nSt (l : LnT) : Nat := l.2.2.2.1
def nHf (l : LnT) : Nat := l.2.2.2.2.1
def nLa (l : LnT) : Nat := l.2.2.2.2.2.1
def nB (l : LnT) : Nat → Int32 := l.2.2.2.2.2.2.1
def nE (l : LnT) : Nat → Nat := l.2.2.2.2.2.2.2
/-- a poem: lines, how many, settings -/
abbrev PoT : Type := (Nat → LnT) × Nat × (Nat → Nat)
def okL (l : LnT) : Prop := nLen l ≤ 80 ∧ 0 < nCnt l ∧ nCnt l ≤ 40 ∧ WL (nLen l) (nCnt l) (nLt l) (nB l) (nE l) ∧ nSt l ≤ 5 ∧ nHf l ≤ 1 ∧ nLa l ≤ 1
def okS (S : Nat → Nat) : Prop := 12 ≤ S 0 ∧ S 0 ≤ 60 ∧ 4 ≤ S 1 ∧ S 1 ≤ 30 ∧ S 2 ≤ 6 ∧ S 3 ≤ 8 ∧ S 4 ≤ 30
def okP (P : PoT) : Prop := P.2.1 ≤ 24 ∧ (∀ k, k < P.2.1 → okL (P.1 k)) ∧ okS P.2.2
/-- line k begins a stanza; leans -/
def bgS (P : PoT) (k : Nat) : Bool := decide (k = 0) || decide (nLa (P.1 (k - 1)) = 1)
def lnS (P : PoT) (k : Nat) : Bool := decide (nHf (P.1 k) = 1) && !bgS P k
/-- the columns of a line's first row and of the others -/
def c1S (P : PoT) (W k : Nat) : Nat := min (nSt (P.1 k) * P.2.2 2 + P.2.2 3) (W - 6)
def c0S (P : PoT) (W k : Nat) (rs : RS) : Nat := min (if lnS P k = true then rCo (lastR rs) + rLe (lastR rs) + 1 else nSt (P.1 k) * P.2.2 2) (W - 6)
def layL (P : PoT) (W k : Nat) (rs : RS) : RS := wordsS W (c1S P W k) (nE (P.1 k)) (nCnt (P.1 k)) 0 (addR rs (k, 0, c0S P W k rs, 0, 0, 0))
/-- the rows of the first k lines -/
def layA (P : PoT) (W : Nat) : Nat → RS
  | 0 => (0, fun _ => (0, 0, 0, 0, 0, 0))
  | k + 1 => layL P W k (layA P W k)
/-- stanzas begun by the first k lines; the stanza of line k; rows of stanza s among the first k lines -/
def szN (P : PoT) : Nat → Nat
  | 0 => 0
  | k + 1 => if bgS P k = true then szN P k + 1 else szN P k
def szO (P : PoT) (k : Nat) : Nat := szN P (k + 1) - 1
def lrS (P : PoT) (W k : Nat) : Nat := (layA P W (k + 1)).1 - (layA P W k).1
def srS (P : PoT) (W : Nat) : Nat → Nat → Nat
  | 0, _ => 0
  | k + 1, s => if szO P k = s then srS P W k s + lrS P W k else srS P W k s
theorem szN_le (P : PoT) : ∀ k, szN P k ≤ k ∧ (0 < k → 0 < szN P k)
  | 0 => ⟨Nat.le_refl 0, fun h => by omega⟩
  | k + 1 => by
    obtain ⟨a, b⟩ := szN_le P k
    rw [szN]
    split
    · exact ⟨by omega, fun _ => by omega⟩
    · rename_i h
      refine ⟨by omega, fun _ => b ?_⟩
      by_cases q : k = 0
      · subst q; exact absurd rfl h
      · omega

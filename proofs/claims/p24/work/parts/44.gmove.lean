theorem z_m1 {v : Nat} (h : 0 < v) : zI (v : Int) + (-1) = zI ((v - 1 : Nat) : Int) := by
  rw [show ((v - 1 : Nat) : Int) = (v : Int) + (-1) by omega]; rw [← zI_add]; rfl
/-- a line's mark is turned -/
def tgL (l : LnT) (b : Bool) : LnT := (nLen l, nCnt l, nLt l, nSt l, (if b = true then 1 - nHf l else nHf l), (if b = true then nLa l else 1 - nLa l), nB l, nE l)
theorem okL_tg {l : LnT} (h : okL l) (b : Bool) : okL (tgL l b) := by
  obtain ⟨h1, h2, h3, h4, h5, h6, h7⟩ := h
  refine ⟨h1, h2, h3, h4, h5, ?_, ?_⟩
  · show (if b = true then 1 - nHf l else nHf l) ≤ 1
    split <;> omega
  · show (if b = true then nLa l else 1 - nLa l) ≤ 1
    split <;> omega
/-- the settings' bounds; a setting is set -/
def sLo (i : Nat) : Nat := if i = 0 then 12 else if i = 1 then 4 else 0
def sHi (i : Nat) : Nat := if i = 0 then 60 else if i = 2 then 6 else if i = 3 then 8 else 30
def setP (P : PoT) (i v : Nat) : PoT := (P.1, P.2.1, upN P.2.2 i v)
theorem okP_set {P : PoT} (ho : okP P) {i v : Nat} (hi : i < 5) (h1 : sLo i ≤ v) (h2 : v ≤ sHi i) : okP (setP P i v) := by
  obtain ⟨a, b, s1, s2, s3, s4, s5, s6, s7⟩ := ho
  refine ⟨a, b, ?_⟩
  unfold sLo sHi at *
  rcases (show i = 0 ∨ i = 1 ∨ i = 2 ∨ i = 3 ∨ i = 4 by omega) with rfl | rfl | rfl | rfl | rfl <;> simp at h1 h2 <;> refine ⟨?_, ?_, ?_, ?_, ?_, ?_, ?_⟩ <;> simp [setP, upN] <;> omega

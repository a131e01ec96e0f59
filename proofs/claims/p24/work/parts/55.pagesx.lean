/-- what pages keep -/
def PI (H : Nat) (s : QS) (r : Nat) : Prop := (∀ i j, i ≤ j → j < r → qF s i ≤ qF s j) ∧ (∀ i, i < r → qF s i ≤ qPg s ∧ qL s i < H) ∧ (qE s = false → 0 < r ∧ qF s (r - 1) = qPg s ∧ qPg s + 1 ≤ r) ∧ (qE s = true → qPl s = 0 ∧ qPg s ≤ r) ∧ qPl s ≤ H
theorem PI_tn {H : Nat} {s : QS} {r : Nat} (h : PI H s r) (he : qE s = false) : PI H (tnQ s) r := by
  obtain ⟨h1, h2, h3, h4, h5⟩ := h
  refine ⟨h1, fun i hi => ⟨Nat.le_succ_of_le (h2 i hi).1, (h2 i hi).2⟩, (by intro x; cases x), fun _ => ⟨rfl, (h3 he).2.2⟩, Nat.zero_le _⟩
theorem PI_row {H : Nat} {s : QS} {r : Nat} (hH : 4 ≤ H) (h : PI H s r) : PI H (rowQ H r s) (r + 1) := by
  have h0 : PI H (rowQ0 H s) r ∧ qPl (rowQ0 H s) < H ∧ qPg (rowQ0 H s) ≤ r := by
    obtain ⟨h1, h2, h3, h4, h5⟩ := id h
    rw [rowQ0]
    by_cases q : qPl s = H
    · have he : qE s = false := by
        cases x : qE s with
        | false => rfl
        | true => have := (h4 x).1; omega
      rw [if_pos q]
      exact ⟨PI_tn h he, by show 0 < H; omega, (h3 he).2.2⟩
    · rw [if_neg q]
      refine ⟨h, by omega, ?_⟩
      cases x : qE s with
      | false => have := (h3 x).2.2; omega
      | true => exact (h4 x).2
  obtain ⟨⟨h1, h2, h3, h4, h5⟩, h6, h7⟩ := h0
  have eF : ∀ i, qF (rowQ0 H s) i = qF s i := fun i => by rw [rowQ0]; split <;> rfl
  have eL : ∀ i, qL (rowQ0 H s) i = qL s i := fun i => by rw [rowQ0]; split <;> rfl
  refine ⟨fun i j hij hj => ?_, fun i hi => ?_, fun _ => ⟨Nat.succ_pos _, ?_, ?_⟩, (by intro x; cases x), h6⟩
  · show (if i = r then qPg (rowQ0 H s) else qF s i) ≤ (if j = r then qPg (rowQ0 H s) else qF s j)
    by_cases a : i = r
    · rw [if_pos a, if_pos (by omega)]; exact Nat.le_refl _
    · rw [if_neg a]
      by_cases b : j = r
      · rw [if_pos b]; have := (h2 i (by omega)).1; rw [eF] at this; exact this
      · rw [if_neg b]; have := h1 i j hij (by omega); rw [eF, eF] at this; exact this
  · show (if i = r then qPg (rowQ0 H s) else qF s i) ≤ qPg (rowQ0 H s) ∧ (if i = r then qPl (rowQ0 H s) else qL s i) < H
    by_cases a : i = r
    · rw [if_pos a, if_pos a]; exact ⟨Nat.le_refl _, h6⟩
    · rw [if_neg a, if_neg a]; have := h2 i (by omega); rw [eF, eL] at this; exact this
  · show (if r + 1 - 1 = r then qPg (rowQ0 H s) else _) = qPg (rowQ0 H s)
    rw [if_pos (by omega)]
  · show qPg (rowQ0 H s) + 1 ≤ r + 1; omega
theorem PI_rows {H : Nat} (hH : 4 ≤ H) : ∀ d r s, PI H s r → PI H (rowsQ H d r s) (r + d) := by
  intro d
  induction d with
  | zero => intro r s h; exact h
  | succ d ih => intro r s h; have := ih (r + 1) _ (PI_row hH h); rw [show r + (d + 1) = r + 1 + d by omega]; exact this
theorem PI_head {H K n all : Nat} {bg : Bool} {s : QS} {r : Nat} (hn : 1 ≤ n) (h : PI H s r) : PI H (headQ H K n all bg s) r := by
  cases bg with
  | false =>
    show PI H (if qE s = false ∧ H < qPl s + n then tnQ s else s) r
    split
    · rename_i x; exact PI_tn h x.1
    · exact h
  | true =>
    show PI H (if qE s = true then s else if H < qPl s + 1 + n ∨ (all ≤ K ∧ all ≤ H ∧ H < qPl s + 1 + all) then tnQ s else (qPg s, qPl s + 1, qE s, qF s, qL s)) r
    split
    · exact h
    · rename_i x
      have he : qE s = false := by cases y : qE s with
        | false => rfl
        | true => exact absurd y x
      split
      · exact PI_tn h he
      · rename_i y
        obtain ⟨h1, h2, h3, h4, h5⟩ := h
        refine ⟨h1, h2, h3, fun z => ?_, by show qPl s + 1 ≤ H; omega⟩
        have z' : qE s = true := z
        rw [he] at z'; cases z'
theorem PI_pag (P : PoT) {W H : Nat} (hH : 4 ≤ H) : ∀ k, PI H (pagQ P W H k) (layA P W k).1
  | 0 => ⟨fun i j _ h => absurd h (Nat.not_lt_zero j), fun i h => absurd h (Nat.not_lt_zero i), (by intro x; cases x), fun _ => ⟨rfl, Nat.le_refl _⟩, Nat.zero_le _⟩
  | k + 1 => by
    have hl := layA_lt P W k
    have h := PI_rows (H := H) hH (lrS P W k) (layA P W k).1 _ (PI_head (K := P.2.2 4) (all := srS P W P.2.1 (szO P k)) (bg := bgS P k) (show 1 ≤ lrS P W k by unfold lrS; omega) (PI_pag P hH k))
    rw [show (layA P W k).1 + lrS P W k = (layA P W (k + 1)).1 by unfold lrS; omega] at h
    exact h
/-- the rows of a page follow one another -/
theorem pgS_ct {F L X : Nat → Nat} {p : Nat} : ∀ r, (∀ i j, i ≤ j → j < r → F i ≤ F j) → (pgS F L X p r).1 + (pgS F L X p r).2.1 ≤ r ∨ (pgS F L X p r).2.1 = 0 := by
  intro r
  induction r with
  | zero => intro _; right; rfl
  | succ r ih =>
    intro hm
    have ih := ih (fun i j h1 h2 => hm i j h1 (by omega))
    rw [pgS]
    by_cases q : F r = p
    · rw [if_pos q]
      left
      by_cases z : (pgS F L X p r).2.1 = 0
      · show (if (pgS F L X p r).2.1 = 0 then r else (pgS F L X p r).1) + ((pgS F L X p r).2.1 + 1) ≤ r + 1
        rw [if_pos z]; omega
      · show (if (pgS F L X p r).2.1 = 0 then r else (pgS F L X p r).1) + ((pgS F L X p r).2.1 + 1) ≤ r + 1
        rw [if_neg z]; omega
    · rw [if_neg q]
      rcases ih with x | x
      · left; omega
      · right; exact x
theorem pgS_in {F L X : Nat → Nat} {p : Nat} : ∀ r, (∀ i j, i ≤ j → j < r → F i ≤ F j) → ((pgS F L X p r).2.1 = 0 → ∀ i, i < r → F i ≠ p) ∧ (0 < (pgS F L X p r).2.1 → ∀ i, i < r → (F i = p ↔ (pgS F L X p r).1 ≤ i ∧ i < (pgS F L X p r).1 + (pgS F L X p r).2.1)) := by
  intro r
  induction r with
  | zero => intro _; exact ⟨fun _ i hi => absurd hi (Nat.not_lt_zero i), fun _ i hi => absurd hi (Nat.not_lt_zero i)⟩
  | succ r ih =>
    intro hm
    have hm' : ∀ i j, i ≤ j → j < r → F i ≤ F j := fun i j h1 h2 => hm i j h1 (by omega)
    obtain ⟨ih1, ih2⟩ := ih hm'
    have hct := pgS_ct (L := L) (X := X) (p := p) r hm'
    rw [pgS]
    by_cases q : F r = p
    · rw [if_pos q]
      refine ⟨fun x => by have : (pgS F L X p r).2.1 + 1 = 0 := x; omega, fun _ i hi => ?_⟩
      show F i = p ↔ (if (pgS F L X p r).2.1 = 0 then r else (pgS F L X p r).1) ≤ i ∧ i < (if (pgS F L X p r).2.1 = 0 then r else (pgS F L X p r).1) + ((pgS F L X p r).2.1 + 1)
      by_cases z : (pgS F L X p r).2.1 = 0
      · rw [if_pos z, z]
        by_cases y : i = r
        · subst y; exact ⟨fun _ => ⟨Nat.le_refl _, by omega⟩, fun _ => q⟩
        · exact ⟨fun x => absurd x (ih1 z i (by omega)), fun x => by omega⟩
      · rw [if_neg z]
        have ih2 := ih2 (by omega)
        have hfst := pgS_lt (F := F) (L := L) (X := X) (p := p) r (by omega)
        have hlast : (pgS F L X p r).1 + (pgS F L X p r).2.1 = r := by
          have a1 := hm (pgS F L X p r).1 (r - 1) (by omega) (by omega)
          have a2 := hm (r - 1) r (by omega) (by omega)
          have a3 := (ih2 (r - 1) (by omega)).mp (by rw [hfst.2] at a1; omega)
          rcases hct with x | x <;> omega
        by_cases y : i = r
        · subst y; exact ⟨fun _ => ⟨by omega, by omega⟩, fun _ => q⟩
        · rw [ih2 i (by omega)]; constructor <;> intro x <;> omega
    · rw [if_neg q]
      refine ⟨fun x i hi => ?_, fun x i hi => ?_⟩
      · by_cases y : i = r
        · subst y; exact q
        · exact ih1 x i (by omega)
      · by_cases y : i = r
        · subst y
          refine ⟨fun h => absurd h q, fun h => ?_⟩
          rcases hct with z | z <;> omega
        · exact ih2 x i (by omega)
/-- the first row from i on, of d, at a place of a page -/
def atF (F L : Nat → Nat) (p q : Nat) : Nat → Nat → Option Nat
  | 0, _ => none
  | d + 1, i => if F i = p ∧ L i = q then some i else atF F L p q d (i + 1)
theorem atF_skip {F L : Nat → Nat} {p q : Nat} : ∀ m d i, (∀ j, i ≤ j → j < i + m → F j ≠ p) → atF F L p q (m + d) i = atF F L p q d (i + m) := by
  intro m
  induction m with
  | zero => intro d i _; rw [Nat.zero_add]; rfl
  | succ m ih =>
    intro d i h
    rw [show m + 1 + d = (m + d) + 1 by omega, atF, if_neg (fun x => h i (Nat.le_refl _) (by omega) x.1), ih d (i + 1) (fun j h1 h2 => h j (by omega) (by omega)), show i + 1 + m = i + (m + 1) by omega]
theorem atF_none {F L : Nat → Nat} {p q : Nat} : ∀ d i, (∀ j, i ≤ j → j < i + d → F j ≠ p) → atF F L p q d i = none := by
  intro d
  induction d with
  | zero => intro i _; rfl
  | succ d ih => intro i h; rw [atF, if_neg (fun x => h i (Nat.le_refl _) (by omega) x.1)]; exact ih (i + 1) (fun j h1 h2 => h j (by omega) (by omega))
theorem atF_cut {F L : Nat → Nat} {p q : Nat} : ∀ d e i, (∀ j, i + d ≤ j → j < i + d + e → F j ≠ p) → atF F L p q (d + e) i = atF F L p q d i := by
  intro d
  induction d with
  | zero => intro e i h; rw [Nat.zero_add]; exact atF_none e i (fun j h1 h2 => h j (by omega) (by omega))
  | succ d ih =>
    intro e i h
    rw [show d + 1 + e = (d + e) + 1 by omega, atF, atF, ih e (i + 1) (fun j h1 h2 => h j (by omega) (by omega))]
/-- a page's rows are enough -/
theorem atF_page {F L X : Nat → Nat} {p q r : Nat} (hm : ∀ i j, i ≤ j → j < r → F i ≤ F j) (hr : 0 < (pgS F L X p r).2.1) : atF F L p q r 0 = atF F L p q (pgS F L X p r).2.1 (pgS F L X p r).1 := by
  have h1 := (pgS_in (L := L) (X := X) (p := p) r hm).2 hr
  have h2 := pgS_ct (L := L) (X := X) (p := p) r hm
  have h3 := pgS_lt (F := F) (L := L) (X := X) (p := p) r hr
  have e : r = (pgS F L X p r).1 + ((pgS F L X p r).2.1 + (r - (pgS F L X p r).1 - (pgS F L X p r).2.1)) := by omega
  have e2 : atF F L p q r 0 = atF F L p q ((pgS F L X p r).1 + ((pgS F L X p r).2.1 + (r - (pgS F L X p r).1 - (pgS F L X p r).2.1))) 0 := congrArg (fun d => atF F L p q d 0) e
  rw [e2, atF_skip _ _ 0 (fun j h4 h5 x => by have := (h1 j (by omega)).mp x; omega), Nat.zero_add]
  exact atF_cut _ _ _ (fun j h4 h5 x => by have := (h1 j (by omega)).mp x; omega)
theorem atF_lt {F L : Nat → Nat} {p q : Nat} : ∀ d i j, atF F L p q d i = some j → i ≤ j ∧ j < i + d := by
  intro d
  induction d with
  | zero => intro i j h; cases h
  | succ d ih =>
    intro i j h
    rw [atF] at h
    split at h
    · cases h; omega
    · have := ih (i + 1) j h; omega


theorem zN_mul (a b : Nat) : zI (a : Int) * zI b = zI ((a * b : Nat) : Int) := by rw [zI_mul]; congr 1
/-- a state more: the oldest is dropped where there are eight -/
def hsK (hs : Nat → PoT) (c : Nat) (P : PoT) : Nat → PoT := if c = 8 then (fun i => if i = 7 then P else hs (i + 1)) else fun i => if i = c then P else hs i
def cK (c : Nat) : Nat := if c = 8 then 8 else c + 1
/-- line k of the poem is l -/
def putL (P : PoT) (k : Nat) (l : LnT) : PoT := (fun i => if i = k then l else P.1 i, P.2.1, P.2.2)
/-- what has been read is a line -/
def lnT (T : Nat → Int32) (n : Nat) : LnT := (lenP T n, cntP T n, ltP T n, sgP T 62 n, anP T 126 n, anP T 47 n, byP (fun _ => 0) T n, lnP T n)
/-- line l put in before line p -/
def insP (P : PoT) (p : Nat) (l : LnT) : PoT := (fun i => if i < p then P.1 i else if i = p then l else P.1 (i - 1), P.2.1 + 1, P.2.2)
theorem Flt_bd (T : Nat → Int32) (n : Nat) (hn : n ≤ 80) : -1 ≤ Flt T n ∧ Flt T n ≤ 100 := by
  have h := i_rng T n
  unfold Flt
  cases hw : wdE T n n (i2P T n) with
  | inl q =>
    simp only []
    split
    · split <;> omega
    · omega
  | inr q =>
    simp only []
    have : ∀ d p, p ≤ n → ∀ q, wdE T n d p = .inr q → q ≤ n := by
      intro d
      induction d with
      | zero => intro p hp q h; cases h
      | succ d ih =>
        intro p hp q h
        rw [wdE] at h
        split at h
        · split at h
          · rename_i a b; cases h
            have h1 := sc_spec isl T n n p (by omega) hp
            omega
          · have h1 := sc_spec isl T n n p (by omega) hp
            have h2 := sc_spec bls T n n _ (by omega) h1.2.1
            exact ih _ h2.2.1 q h
        · cases h
    have := this n _ h.1 q hw
    omega
theorem sg_no {T : Nat → Int32} {c : Int32} : ∀ p q, p ≤ q → (∀ j, p ≤ j → j < q → T j ≠ c) → sgP T c q = sgP T c p := by
  intro p q h
  induction h with
  | refl => intro _; rfl
  | step h ih =>
    rename_i m
    intro hj
    rw [sgP, if_neg (hj m h (by omega)), ih (fun j j1 j2 => hj j j1 (by omega))]
theorem st_sg {T : Nat → Int32} {n : Nat} : ∀ k p, p ≤ n → sgP T 62 (stE T n k p) ≤ sgP T 62 p + k := by
  intro k
  induction k with
  | zero => intro p hp; exact Nat.le_refl _
  | succ k ih =>
    intro p hp
    by_cases q : TX T n p = 62
    · obtain ⟨q1, q2⟩ := TX_lt q (by decide)
      have hs := sc_spec bls T n n (p + 1) (by omega) (by omega)
      have h1 := ih (sc bls T n (p + 1)) hs.2.1
      have h2 : sgP T 62 (sc bls T n (p + 1)) = sgP T 62 (p + 1) := sg_no _ _ hs.1 (fun j j1 j2 => by rw [sc_rng (by omega) j1 j2]; decide)
      have h3 : sgP T 62 (p + 1) = sgP T 62 p + 1 := by rw [sgP, if_pos q2]
      rw [stE, if_pos q]; omega
    · rw [stE, if_neg q]; omega
theorem cnt_mono {T : Nat → Int32} {p q : Nat} (h : p ≤ q) : cntP T p ≤ cntP T q := by
  induction h with
  | refl => exact Nat.le_refl _
  | step _ ih => rw [cntP]; split <;> omega
theorem lnT_ok {T : Nat → Int32} {n : Nat} (hn : n ≤ 80) (hf : Flt T n = -1) : okL (lnT T n) := by
  obtain ⟨r1, r2, r3, r4, r5⟩ := i_rng T n
  have hlen := (lenP_le T n).1
  have hh := (cnt_half T n).1
  have an : ∀ c i, anP T c i ≤ 1 := by
    intro c i
    induction i with
    | zero => exact Nat.zero_le _
    | succ i ih => rw [anP]; split <;> omega
  rw [Flt] at hf
  cases hw : wdE T n n (i2P T n) with
  | inr q => rw [hw] at hf; simp only [] at hf; omega
  | inl q =>
    rw [hw] at hf
    simp only [] at hf
    by_cases hl : isl (TX T n (i2P T n)) = true
    · rw [if_pos hl] at hf
      have hq : ¬ tk T n 47 q < n := fun x => by rw [if_pos x] at hf; omega
      obtain ⟨l1, l2⟩ := isl_TX hl
      obtain ⟨w1, w2⟩ := wd_rng n (i2P T n) r1 q hw
      have hqn : q ≤ n := by
        by_cases z : q ≤ n
        · exact z
        · exfalso
          have e := w2 n (by omega) (by omega)
          have : ∀ d p, p ≤ n → ∀ q, wdE T n d p = .inl q → q ≤ n := by
            intro d
            induction d with
            | zero => intro p hp q h; cases h; exact hp
            | succ d ih =>
              intro p hp q h
              rw [wdE] at h
              split at h
              · split at h
                · cases h
                · have h1 := sc_spec isl T n n p (by omega) hp
                  have h2 := sc_spec bls T n n _ (by omega) h1.2.1
                  exact ih _ h2.2.1 q h
              · cases h; exact hp
          exact z (this n _ r1 q hw)
      have tl := tk_le (T := T) (n := n) (p := q) (c := 47) (by decide) hqn
      have hc : 0 < cntP T n := Nat.lt_of_lt_of_le (cnt_pos _ l2) (cnt_mono (by omega))
      have s1 : sgP T 62 (i1P T n) = 0 := (sg_no 0 _ (Nat.zero_le _) (fun j _ j2 => by rcases r3 j j2 with e | e <;> rw [e] <;> decide)).trans rfl
      have s2 : sgP T 62 (i2P T n) ≤ sgP T 62 (i1P T n) + 5 := st_sg 5 (i1P T n) r2
      have s3 : sgP T 62 q = sgP T 62 (i2P T n) := sg_no _ _ w1 (fun j j1 j2 => by
        rcases w2 j j1 j2 with e | e
        · rw [e]; decide
        · intro x; rw [x] at e; exact absurd e (by decide))
      have s4 : sgP T 62 n = sgP T 62 q := sg_no _ _ hqn (fun j j1 j2 => by rcases tk_rng (T := T) (n := n) (p := q) (c := 47) (by decide) hqn j1 (by omega) with e | e <;> rw [e] <;> decide)
      exact ⟨by show lenP T n ≤ 80; omega, hc, by show cntP T n ≤ 40; omega, WL_P _ T n, by show sgP T 62 n ≤ 5; omega, an 126 n, an 47 n⟩
    · rw [if_neg hl] at hf; omega
theorem m1_Flt {T : Nat → Int32} {n : Nat} (hn : n ≤ 80) : (zI (Flt T n) = -1) ↔ Flt T n = -1 := by
  have h := Flt_bd T n hn
  rw [show (-1 : Int32) = zI (-1) from rfl, zI_eq (by omega) (by omega) (by omega) (by omega)]
theorem okP_ins {P : PoT} (ho : okP P) (h : P.2.1 < 24) {p : Nat} (hp : p ≤ P.2.1) {l : LnT} (hl : okL l) : okP (insP P p l) := by
  refine ⟨by show P.2.1 + 1 ≤ 24; omega, fun k hk => ?_, ho.2.2⟩
  have hk' : k < P.2.1 + 1 := hk
  show okL (if k < p then P.1 k else if k = p then l else P.1 (k - 1))
  split
  · exact ho.2.1 k (by omega)
  · split
    · exact hl
    · exact ho.2.1 (k - 1) (by omega)

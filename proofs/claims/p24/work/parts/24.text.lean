def upL (L : Nat → Int32) (j : Nat) (v : Int32) : Nat → Int32 := fun k => if k = j then v else L k
/-- the text: T its bytes, n its length -/
def TX (T : Nat → Int32) (n p : Nat) : Int32 := if p < n then T p else -1
def isl (b : Int32) : Bool := decide (97 ≤ b ∧ b ≤ 122)
def bls (b : Int32) : Bool := decide (b = 32)
def scF (P : Int32 → Bool) (T : Nat → Int32) : Nat → Nat → Nat
  | 0, p => p
  | d + 1, p => if P (T p) then scF P T d (p + 1) else p
/-- the place behind those from p on that are so -/
def sc (P : Int32 → Bool) (T : Nat → Int32) (n p : Nat) : Nat := scF P T (n - p) p
theorem sc_end {P : Int32 → Bool} {T : Nat → Int32} {n p : Nat} (h : n ≤ p) : sc P T n p = p := by
  rw [sc, show n - p = 0 by omega]; rfl
theorem sc_no {P : Int32 → Bool} {T : Nat → Int32} {n p : Nat} (h : p < n) (h1 : P (T p) = false) : sc P T n p = p := by
  rw [sc, show n - p = (n - p - 1) + 1 by omega, scF, h1]; rfl
theorem sc_yes {P : Int32 → Bool} {T : Nat → Int32} {n p : Nat} (h : p < n) (h1 : P (T p) = true) : sc P T n p = sc P T n (p + 1) := by
  rw [sc, sc, show n - p = (n - (p + 1)) + 1 by omega, scF, h1]; rfl
theorem sc_spec (P : Int32 → Bool) (T : Nat → Int32) (n : Nat) : ∀ d p, n - p ≤ d → p ≤ n → p ≤ sc P T n p ∧ sc P T n p ≤ n ∧ (∀ j, p ≤ j → j < sc P T n p → P (T j) = true) ∧ (sc P T n p < n → P (T (sc P T n p)) = false) := by
  intro d
  induction d with
  | zero => intro p h1 h2; rw [sc_end (by omega)]; exact ⟨by omega, by omega, fun j _ _ => by omega, fun _ => by omega⟩
  | succ d ih =>
    intro p h1 h2
    by_cases h : p < n
    · cases hp : P (T p) with
      | false => rw [sc_no h hp]; exact ⟨by omega, by omega, fun j _ _ => by omega, fun _ => hp⟩
      | true =>
        rw [sc_yes h hp]
        obtain ⟨a, b, c, e⟩ := ih (p + 1) (by omega) (by omega)
        refine ⟨by omega, b, fun j j1 j2 => ?_, e⟩
        by_cases q : j = p
        · rw [q]; exact hp
        · exact c j (by omega) j2
    · rw [sc_end (by omega)]; exact ⟨by omega, by omega, fun j _ _ => by omega, fun _ => by omega⟩
theorem TX_in {T : Nat → Int32} {n p : Nat} (h : p < n) : TX T n p = T p := if_pos h
theorem TX_out {T : Nat → Int32} {n p : Nat} (h : n ≤ p) : TX T n p = -1 := if_neg (by omega)
/-- the place behind a sign that may stand there, and the blanks behind it -/
def tk (T : Nat → Int32) (n : Nat) (c : Int32) (p : Nat) : Nat := if TX T n p = c then sc bls T n (p + 1) else p
theorem tk_le {T : Nat → Int32} {n p : Nat} {c : Int32} (hc : c ≠ -1) (hp : p ≤ n) : p ≤ tk T n c p ∧ tk T n c p ≤ n := by
  unfold tk; split
  · by_cases q : p < n
    · have := sc_spec bls T n n (p + 1) (by omega) (by omega); omega
    · rename_i h; rw [TX_out (by omega)] at h; exact absurd h.symm hc
  · omega
/-- a letter at i that begins a word -/
def wsP (T : Nat → Int32) : Nat → Bool
  | 0 => isl (T 0)
  | i + 1 => isl (T (i + 1)) && !isl (T i)
/-- of the text's first i bytes: words, bytes of the line, signs, letters of each word -/
def cntP (T : Nat → Int32) : Nat → Nat
  | 0 => 0
  | i + 1 => if wsP T i = true then cntP T i + 1 else cntP T i
def gapP (T : Nat → Int32) (i : Nat) : Nat := if wsP T i = true ∧ 0 < cntP T i then 1 else 0
def lenP (T : Nat → Int32) : Nat → Nat
  | 0 => 0
  | i + 1 => if isl (T i) = true then lenP T i + gapP T i + 1 else lenP T i
def gpB (T : Nat → Int32) (i : Nat) (B : Nat → Int32) : Nat → Int32 := if wsP T i = true ∧ 0 < cntP T i then upL B (lenP T i) 32 else B
def byP (Z T : Nat → Int32) : Nat → Nat → Int32
  | 0 => Z
  | i + 1 => if isl (T i) = true then upL (gpB T i (byP Z T i)) (lenP T i + gapP T i) (T i) else byP Z T i
def sgP (T : Nat → Int32) (c : Int32) : Nat → Nat
  | 0 => 0
  | i + 1 => if T i = c then sgP T c i + 1 else sgP T c i
def anP (T : Nat → Int32) (c : Int32) : Nat → Nat
  | 0 => 0
  | i + 1 => if T i = c then 1 else anP T c i
def lnP (T : Nat → Int32) : Nat → Nat → Nat
  | 0 => fun _ => 0
  | i + 1 => if isl (T i) = true then (fun k => if k + 1 = cntP T (i + 1) then lnP T i k + 1 else lnP T i k) else lnP T i
theorem ws_l {T : Nat → Int32} : ∀ {i : Nat}, wsP T i = true → isl (T i) = true
  | 0, h => h
  | i + 1, h => by simp only [wsP, Bool.and_eq_true] at h; exact h.1
/-- a blank is put in only after a byte that is no letter -/
theorem lenP_le (T : Nat → Int32) : ∀ i, lenP T i ≤ i ∧ (wsP T i = true → 0 < cntP T i → lenP T i + 1 ≤ i)
  | 0 => ⟨Nat.le_refl 0, fun _ h => by simp [cntP] at h⟩
  | i + 1 => by
    obtain ⟨a, b⟩ := lenP_le T i
    by_cases h : isl (T i) = true
    · refine ⟨?_, fun q => ?_⟩
      · rw [lenP, if_pos h, gapP]
        split
        · rename_i w; have := b w.1 w.2; omega
        · omega
      · simp [wsP, h] at q
    · refine ⟨?_, fun _ _ => ?_⟩
      · rw [lenP, if_neg h]; omega
      · rw [lenP, if_neg h]; omega
theorem gap_le (T : Nat → Int32) (i : Nat) : lenP T i + gapP T i ≤ i := by
  have := lenP_le T i
  unfold gapP; split
  · rename_i w; exact this.2 w.1 w.2
  · exact this.1
theorem ix_l (n k : Nat) (h : k < n) (h2 : n ≤ 2147483647) : ix (zI k) n = some k := by rw [zI_ix (by omega) (by omega) h2]; rfl
theorem zN_add (a b : Nat) : zI a + zI b = zI ((a + b : Nat) : Int) := zI_add a b
theorem zN_le {a b : Nat} (ha : a ≤ 2147483647) (hb : b ≤ 2147483647) : (zI a ≤ zI b) ↔ a ≤ b := by
  rw [zI_le (by omega) (by omega) (by omega) (by omega)]; omega
theorem zN_lt {a b : Nat} (ha : a ≤ 2147483647) (hb : b ≤ 2147483647) : (zI a < zI b) ↔ a < b := by
  rw [zI_lt (by omega) (by omega) (by omega) (by omega)]; omega
theorem zN_eq {a b : Nat} (ha : a ≤ 2147483647) (hb : b ≤ 2147483647) : (zI a = zI b) ↔ a = b := by
  rw [zI_eq (by omega) (by omega) (by omega) (by omega)]; omega
theorem zN_add1 (a : Nat) : zI a + 1 = zI ((a + 1 : Nat) : Int) := zI_add a 1
theorem zN_sub1 {a : Nat} (h : 0 < a) : zI a - 1 = zI ((a - 1 : Nat) : Int) := by
  rw [show ((a - 1 : Nat) : Int) = (a : Int) - 1 by omega]; exact zI_sub a 1
theorem ws_il {T : Nat → Int32} {p : Nat} (h : isl (T p) = false) : wsP T p = false := by
  cases hw : wsP T p with
  | false => rfl
  | true => rw [ws_l hw] at h; cases h
/-- the place behind at most k steps -/
def stE (T : Nat → Int32) (n : Nat) : Nat → Nat → Nat
  | 0, p => p
  | k + 1, p => if TX T n p = 62 then stE T n k (sc bls T n (p + 1)) else p
theorem TX_lt {T : Nat → Int32} {n p : Nat} {c : Int32} (h : TX T n p = c) (hc : c ≠ -1) : p < n ∧ T p = c := by
  by_cases q : p < n
  · rw [TX_in q] at h; exact ⟨q, h⟩
  · rw [TX_out (by omega)] at h; exact absurd h.symm hc
/-- the place behind the words from p on, or that of a seventeenth letter -/
def wdE (T : Nat → Int32) (n : Nat) : Nat → Nat → Nat ⊕ Nat
  | 0, p => .inl p
  | d + 1, p => if isl (TX T n p) = true then (if 16 < sc isl T n p - p then .inr (p + 16) else wdE T n d (sc bls T n (sc isl T n p))) else .inl p
theorem isl_TX {T : Nat → Int32} {n p : Nat} (h : isl (TX T n p) = true) : p < n ∧ isl (T p) = true := by
  by_cases q : p < n
  · rw [TX_in q] at h; exact ⟨q, h⟩
  · rw [TX_out (by omega)] at h; cases h
/-- from p to q neither a letter nor the sign -/
theorem sc_rng {T : Nat → Int32} {n p : Nat} (hp : p ≤ n) {j : Nat} (h1 : p ≤ j) (h2 : j < sc bls T n p) : T j = 32 := by
  have := (sc_spec bls T n n p (by omega) hp).2.2.1 j h1 h2
  simpa [bls] using this
theorem tk_rng {T : Nat → Int32} {n p : Nat} {c : Int32} (hc : c ≠ -1) (hp : p ≤ n) {j : Nat} (h1 : p ≤ j) (h2 : j < tk T n c p) : T j = 32 ∨ T j = c := by
  unfold tk at h2
  split at h2
  · rename_i q
    obtain ⟨q1, q2⟩ := TX_lt q hc
    by_cases e : j = p
    · right; rw [e]; exact q2
    · left; exact sc_rng (by omega) (by omega) h2
  · omega
theorem st_rng {T : Nat → Int32} {n : Nat} : ∀ k p, p ≤ n → p ≤ stE T n k p ∧ stE T n k p ≤ n ∧ ∀ j, p ≤ j → j < stE T n k p → T j = 32 ∨ T j = 62 := by
  intro k
  induction k with
  | zero => intro p hp; exact ⟨Nat.le_refl _, hp, fun j h1 h2 => by simp [stE] at h2; omega⟩
  | succ k ih =>
    intro p hp
    by_cases q : TX T n p = 62
    · obtain ⟨q1, q2⟩ := TX_lt q (by decide)
      have hs := sc_spec bls T n n (p + 1) (by omega) (by omega)
      obtain ⟨a, b, c⟩ := ih (sc bls T n (p + 1)) hs.2.1
      rw [stE, if_pos q]
      refine ⟨by omega, b, fun j h1 h2 => ?_⟩
      by_cases e : j = p
      · right; rw [e]; exact q2
      · by_cases e2 : j < sc bls T n (p + 1)
        · left; exact sc_rng (by omega) (by omega) e2
        · exact c j (by omega) h2
    · rw [stE, if_neg q]; exact ⟨Nat.le_refl _, hp, fun j h1 h2 => by omega⟩
theorem wd_rng {T : Nat → Int32} {n : Nat} : ∀ d p, p ≤ n → ∀ q, wdE T n d p = .inl q → p ≤ q ∧ ∀ j, p ≤ j → j < q → T j = 32 ∨ isl (T j) = true := by
  intro d
  induction d with
  | zero => intro p hp q h; cases h; exact ⟨Nat.le_refl _, fun j h1 h2 => by omega⟩
  | succ d ih =>
    intro p hp q h
    rw [wdE] at h
    split at h
    · split at h
      · cases h
      · have h1 := sc_spec isl T n n p (by omega) hp
        have h2 := sc_spec bls T n n _ (by omega) h1.2.1
        obtain ⟨a, b⟩ := ih _ h2.2.1 q h
        refine ⟨by omega, fun j j1 j2 => ?_⟩
        by_cases e1 : j < sc isl T n p
        · right; exact h1.2.2.1 j j1 e1
        · by_cases e2 : j < sc bls T n (sc isl T n p)
          · left; exact sc_rng h1.2.1 (by omega) e2
          · exact b j (by omega) j2
    · cases h; exact ⟨Nat.le_refl _, fun j h1 h2 => by omega⟩
def i1P (T : Nat → Int32) (n : Nat) : Nat := tk T n 126 (sc bls T n 0)
def i2P (T : Nat → Int32) (n : Nat) : Nat := stE T n 5 (i1P T n)
/-- where the text stops being a line; -1: it is one -/
def Flt (T : Nat → Int32) (n : Nat) : Int := match wdE T n n (i2P T n) with
  | .inr q => q
  | .inl q => if isl (TX T n (i2P T n)) = true then (if tk T n 47 q < n then tk T n 47 q else -1) else i2P T n
theorem i_rng (T : Nat → Int32) (n : Nat) : i2P T n ≤ n ∧ i1P T n ≤ n ∧ (∀ j, j < i1P T n → T j = 32 ∨ T j = 126) ∧ i1P T n ≤ i2P T n ∧ ∀ j, i1P T n ≤ j → j < i2P T n → T j = 32 ∨ T j = 62 := by
  have h0 := sc_spec bls T n n 0 (by omega) (by omega)
  have h1 := tk_le (T := T) (n := n) (c := 126) (by decide) h0.2.1
  obtain ⟨a, b, c⟩ := st_rng (T := T) (n := n) 5 (i1P T n) h1.2
  refine ⟨b, h1.2, fun j hj => ?_, a, c⟩
  by_cases e : j < sc bls T n 0
  · left; exact sc_rng (by omega) (by omega) e
  · exact tk_rng (by decide) h0.2.1 (by omega) hj

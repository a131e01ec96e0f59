/-- the reference's object while it reads: place p, fault f, the line read L -/
def rd (M : MS) (p f : Int32) (L : Nat → Int32) : MS := (fun k => if k = 5 then p else if k = 6 then f else M.1 k, fun r j => if r = 3 then L j else M.2.1 r j, M.2.2)
def upL (L : Nat → Int32) (j : Nat) (v : Int32) : Nat → Int32 := fun k => if k = j then v else L k
theorem rd_self (M : MS) : rd M (mF M 5) (mF M 6) (fun j => mA M 3 j) = M := by
  obtain ⟨a, b, c⟩ := M
  simp only [rd, mF, mA, Prod.mk.injEq, and_true]
  constructor
  · funext k; split
    · subst_vars; rfl
    · split
      · subst_vars; rfl
      · rfl
  · funext r j; split
    · subst_vars; rfl
    · rfl
theorem rd_e5 (M : MS) (p f : Int32) (L : Nat → Int32) (v : Int32) : eF (rd M p f L) 5 v = rd M v f L := by
  simp only [rd, eF, Prod.mk.injEq, and_true]
  funext k; by_cases h : k = 5 <;> simp [h]
theorem rd_e6 (M : MS) (p f : Int32) (L : Nat → Int32) (v : Int32) : eF (rd M p f L) 6 v = rd M p v L := by
  simp only [rd, eF, Prod.mk.injEq, and_true]
  funext k; by_cases h : k = 6 <;> simp [h]
theorem rd_eA (M : MS) (p f : Int32) (L : Nat → Int32) (j : Nat) (v : Int32) : eA (rd M p f L) 3 j v = rd M p f (upL L j v) := by
  simp only [rd, eA, Prod.mk.injEq, and_true, true_and]
  funext r k; simp only [up2, upL]; by_cases h : r = 3 <;> simp [h]
theorem rd_5 (M : MS) (p f : Int32) (L : Nat → Int32) : mF (rd M p f L) 5 = p := rfl
theorem rd_6 (M : MS) (p f : Int32) (L : Nat → Int32) : mF (rd M p f L) 6 = f := rfl
theorem rd_4 (M : MS) (p f : Int32) (L : Nat → Int32) : mF (rd M p f L) 4 = mF M 4 := rfl
theorem rd_A3 (M : MS) (p f : Int32) (L : Nat → Int32) (j : Nat) : mA (rd M p f L) 3 j = L j := rfl
theorem rd_A2 (M : MS) (p f : Int32) (L : Nat → Int32) (j : Nat) : mA (rd M p f L) 2 j = mA M 2 j := rfl
theorem rd_A0 (M : MS) (p f : Int32) (L : Nat → Int32) (j : Nat) : mA (rd M p f L) 0 j = mA M 0 j := rfl
/-- the text: T its bytes, n its length -/
def TX (T : Nat → Int32) (n p : Nat) : Int32 := if p < n then T p else -1
def isl (b : Int32) : Bool := decide (97 ≤ b ∧ b ≤ 122)
def bls (b : Int32) : Bool := decide (b = 32)
def scF (P : Int32 → Bool) (T : Nat → Int32) : Nat → Nat → Nat
  | 0, p => p
  | d + 1, p => if P (T p) then scF P T d (p + 1) else p
/-- the place behind those from p on that are so -/
def sc (P : Int32 → Bool) (T : Nat → Int32) (n p : Nat) : Nat := scF P T (n - p) p
theorem sc_end {P : Int32 → Bool} {T : Nat → Int32} {n p : Nat} (h : n ≤ p) : sc P T n p = p := by
  rw [sc, show n - p = 0 by omega]; rfl
theorem sc_no {P : Int32 → Bool} {T : Nat → Int32} {n p : Nat} (h : p < n) (h1 : P (T p) = false) : sc P T n p = p := by
  rw [sc, show n - p = (n - p - 1) + 1 by omega, scF, h1]; rfl
theorem sc_yes {P : Int32 → Bool} {T : Nat → Int32} {n p : Nat} (h : p < n) (h1 : P (T p) = true) : sc P T n p = sc P T n (p + 1) := by
  rw [sc, sc, show n - p = (n - (p + 1)) + 1 by omega, scF, h1]; rfl
theorem sc_spec (P : Int32 → Bool) (T : Nat → Int32) (n : Nat) : ∀ d p, n - p ≤ d → p ≤ n → p ≤ sc P T n p ∧ sc P T n p ≤ n ∧ (∀ j, p ≤ j → j < sc P T n p → P (T j) = true) ∧ (sc P T n p < n → P (T (sc P T n p)) = false) := by
  intro d
  induction d with
  | zero => intro p h1 h2; rw [sc_end (by omega)]; exact ⟨by omega, by omega, fun j _ _ => by omega, fun _ => by omega⟩
  | succ d ih =>
    intro p h1 h2
    by_cases h : p < n
    · cases hp : P (T p) with
      | false => rw [sc_no h hp]; exact ⟨by omega, by omega, fun j _ _ => by omega, fun _ => hp⟩
      | true =>
        rw [sc_yes h hp]
        obtain ⟨a, b, c, e⟩ := ih (p + 1) (by omega) (by omega)
        refine ⟨by omega, b, fun j j1 j2 => ?_, e⟩
        by_cases q : j = p
        · rw [q]; exact hp
        · exact c j (by omega) j2
    · rw [sc_end (by omega)]; exact ⟨by omega, by omega, fun j _ _ => by omega, fun _ => by omega⟩
/-- the reference's text -/
def MT (M : MS) (T : Nat → Int32) (n : Nat) : Prop := n ≤ 80 ∧ mF M 4 = zI n ∧ (∀ j, j < n → mA M 2 j = T j) ∧ ∀ j, j < n → ∃ c : Nat, c < 128 ∧ T j = zI c
theorem g_next {M : MS} {T : Nat → Int32} {n p : Nat} (h : MT M T n) (hp : p ≤ 1000) (f : Int32) (L : Nat → Int32) : g_X11_next (rd M (zI p) f L) = some (TX T n p) := by
  obtain ⟨h0, h1, h2, h3⟩ := h
  rw [g_X11_next, rd_4, rd_5, h1]
  simp (disch := omega) only [zI_le]
  by_cases q : p < n
  · rw [if_neg (by omega), zI_ix (by omega) (by omega) (by omega), TX, if_pos q]
    simp only [bnd, rd_A2, Int.toNat_natCast]
    rw [h2 p q]
  · rw [if_pos (by omega), TX, if_neg q]
theorem TX_in {T : Nat → Int32} {n p : Nat} (h : p < n) : TX T n p = T p := if_pos h
theorem TX_out {T : Nat → Int32} {n p : Nat} (h : n ≤ p) : TX T n p = -1 := if_neg (by omega)
theorem gz_b (c : Prop) [Decidable c] : gz (if c then 1 else 0) = some (if c then 1 else 0) := by split <;> rfl
theorem b_0 (c : Prop) [Decidable c] : ((if c then (1 : Int32) else 0) = 0) = ¬ c := by split <;> simp [*]
theorem g_in (M : MS) (a b c : Int32) : g_X11_in M a b c = some (if b ≤ a ∧ a ≤ c then 1 else 0) := by
  unfold g_X11_in
  by_cases h1 : a < b
  · rw [if_pos h1, if_neg (fun q => absurd q.1 (Int32.not_le.mpr h1))]
  · rw [if_neg h1]
    by_cases h2 : c < a
    · rw [if_pos h2, if_neg (fun q => absurd q.2 (Int32.not_le.mpr h2))]
    · rw [if_neg h2, if_pos ⟨Int32.not_lt.mp h1, Int32.not_lt.mp h2⟩]
theorem g_isLetter {M : MS} {T : Nat → Int32} {n p : Nat} (h : MT M T n) (hp : p ≤ 1000) (f : Int32) (L : Nat → Int32) : g_X11_isLetter (rd M (zI p) f L) = some (if isl (TX T n p) = true then 1 else 0) := by
  rw [g_X11_isLetter, g_next h hp, bnd, g_in, bnd, gz_b, bnd]
  simp only [isl, decide_eq_true_eq]
theorem g_skips {M : MS} {T : Nat → Int32} {n : Nat} (h : MT M T n) : ∀ d p, n - p ≤ d → p ≤ n → ∀ (k : Nat) f L, d < k → LGX11_skips_0 k (rd M (zI p) f L) = some (rd M (zI (sc bls T n p)) f L) := by
  intro d
  induction d with
  | zero =>
    intro p h1 h2 k f L hk
    obtain ⟨k, rfl⟩ : ∃ k', k = k' + 1 := ⟨k - 1, by omega⟩
    have h0 := h.1
    rw [LGX11_skips_0, g_next h (by omega), bnd, TX_out (by omega), if_pos (by decide), sc_end (by omega)]
  | succ d ih =>
    intro p h1 h2 k f L hk
    obtain ⟨k, rfl⟩ : ∃ k', k = k' + 1 := ⟨k - 1, by omega⟩
    have h0 := h.1
    rw [LGX11_skips_0, g_next h (by omega), bnd]
    by_cases q : p < n
    · rw [TX_in q]
      by_cases q2 : T p = 32
      · rw [if_neg (by simp [q2]), sc_yes q (by simp [bls, q2]), rd_5, rd_e5, zI_lit, zI_add]
        exact ih (p + 1) (by omega) (by omega) k f L (by omega)
      · rw [if_pos q2, sc_no q (by simp [bls, q2])]
    · rw [TX_out (by omega), if_pos (by decide), sc_end (by omega)]
theorem g_skip {M : MS} {T : Nat → Int32} {n p : Nat} (h : MT M T n) (hp : p ≤ n) (f : Int32) (L : Nat → Int32) : g_X11_skips (rd M (zI p) f L) = some (rd M (zI (sc bls T n p)) f L) := by
  have h0 := h.1
  rw [g_X11_skips, g_skips h (n - p) p (by omega) hp FU f L (by simp only [FU]; omega), bnd]
/-- the place behind a sign that may stand there, and the blanks behind it -/
def tk (T : Nat → Int32) (n : Nat) (c : Int32) (p : Nat) : Nat := if TX T n p = c then sc bls T n (p + 1) else p
theorem tk_le {T : Nat → Int32} {n p : Nat} {c : Int32} (hc : c ≠ -1) (hp : p ≤ n) : p ≤ tk T n c p ∧ tk T n c p ≤ n := by
  unfold tk; split
  · by_cases q : p < n
    · have := sc_spec bls T n n (p + 1) (by omega) (by omega); omega
    · rename_i h; rw [TX_out (by omega)] at h; exact absurd h.symm hc
  · omega
theorem g_takes {M : MS} {T : Nat → Int32} {n p : Nat} (h : MT M T n) (hp : p ≤ n) {c : Int32} (hc : c ≠ -1) (f : Int32) (L : Nat → Int32) : g_X11_takes (rd M (zI p) f L) c = some (if TX T n p = c then 1 else 0, rd M (zI (tk T n c p)) f L) := by
  have h0 := h.1
  rw [g_X11_takes, g_next h (by omega), bnd]
  by_cases q : TX T n p = c
  · have hpn : p < n := by
      by_cases hh : p < n
      · exact hh
      · rw [TX_out (by omega)] at q; exact absurd q.symm hc
    rw [if_neg (by simp [q]), bnd, if_neg (by decide), rd_5, rd_e5, zI_lit, zI_add]
    rw [show ((p : Int) + (OfNat.ofNat 1 : Int)) = ((p + 1 : Nat) : Int) from rfl, g_skip h (by omega), bnd]
    simp only [tk, q, if_true]
    rfl
  · rw [if_pos q, bnd, if_pos rfl]
    simp only [tk, q, if_false]
    rfl
/-- a letter at i that begins a word -/
def wsP (T : Nat → Int32) : Nat → Bool
  | 0 => isl (T 0)
  | i + 1 => isl (T (i + 1)) && !isl (T i)
/-- of the text's first i bytes: words, bytes of the line, signs, letters of each word -/
def cntP (T : Nat → Int32) : Nat → Nat
  | 0 => 0
  | i + 1 => if wsP T i = true then cntP T i + 1 else cntP T i
def gapP (T : Nat → Int32) (i : Nat) : Nat := if wsP T i = true ∧ 0 < cntP T i then 1 else 0
def lenP (T : Nat → Int32) : Nat → Nat
  | 0 => 0
  | i + 1 => if isl (T i) = true then lenP T i + gapP T i + 1 else lenP T i
def gpB (T : Nat → Int32) (i : Nat) (B : Nat → Int32) : Nat → Int32 := if wsP T i = true ∧ 0 < cntP T i then upL B (lenP T i) 32 else B
def byP (Z T : Nat → Int32) : Nat → Nat → Int32
  | 0 => Z
  | i + 1 => if isl (T i) = true then upL (gpB T i (byP Z T i)) (lenP T i + gapP T i) (T i) else byP Z T i
def sgP (T : Nat → Int32) (c : Int32) : Nat → Nat
  | 0 => 0
  | i + 1 => if T i = c then sgP T c i + 1 else sgP T c i
def anP (T : Nat → Int32) (c : Int32) : Nat → Nat
  | 0 => 0
  | i + 1 => if T i = c then 1 else anP T c i
def lnP (T : Nat → Int32) : Nat → Nat → Nat
  | 0 => fun _ => 0
  | i + 1 => if isl (T i) = true then (fun k => if k + 1 = cntP T (i + 1) then lnP T i k + 1 else lnP T i k) else lnP T i
theorem ws_l {T : Nat → Int32} : ∀ {i : Nat}, wsP T i = true → isl (T i) = true
  | 0, h => h
  | i + 1, h => by simp only [wsP, Bool.and_eq_true] at h; exact h.1
/-- a blank is put in only after a byte that is no letter -/
theorem lenP_le (T : Nat → Int32) : ∀ i, lenP T i ≤ i ∧ (wsP T i = true → 0 < cntP T i → lenP T i + 1 ≤ i)
  | 0 => ⟨Nat.le_refl 0, fun _ h => by simp [cntP] at h⟩
  | i + 1 => by
    obtain ⟨a, b⟩ := lenP_le T i
    by_cases h : isl (T i) = true
    · refine ⟨?_, fun q => ?_⟩
      · rw [lenP, if_pos h, gapP]
        split
        · rename_i w; have := b w.1 w.2; omega
        · omega
      · simp [wsP, h] at q
    · refine ⟨?_, fun _ _ => ?_⟩
      · rw [lenP, if_neg h]; omega
      · rw [lenP, if_neg h]; omega
theorem gap_le (T : Nat → Int32) (i : Nat) : lenP T i + gapP T i ≤ i := by
  have := lenP_le T i
  unfold gapP; split
  · rename_i w; exact this.2 w.1 w.2
  · exact this.1
/-- a line's 85 numbers -/
def EN (len cnt st hf lt : Nat) (B : Nat → Int32) : Nat → Int32 := fun k => if k = 0 then zI len else if k = 1 then zI cnt else if k = 2 then zI st else if k = 3 then zI hf else if k = 4 then zI lt else B (k - 5)
theorem EN_0 (len cnt st hf lt : Nat) (B : Nat → Int32) (x : Nat) : upL (EN len cnt st hf lt B) 0 (zI x) = EN x cnt st hf lt B := by
  funext k; simp only [upL, EN]; split <;> rfl
theorem EN_1 (len cnt st hf lt : Nat) (B : Nat → Int32) (x : Nat) : upL (EN len cnt st hf lt B) 1 (zI x) = EN len x st hf lt B := by
  funext k; simp only [upL, EN]; split <;> simp_all
theorem EN_2 (len cnt st hf lt : Nat) (B : Nat → Int32) (x : Nat) : upL (EN len cnt st hf lt B) 2 (zI x) = EN len cnt x hf lt B := by
  funext k; simp only [upL, EN]; split <;> simp_all
theorem EN_3 (len cnt st hf lt : Nat) (B : Nat → Int32) (x : Nat) : upL (EN len cnt st hf lt B) 3 (zI x) = EN len cnt st x lt B := by
  funext k; simp only [upL, EN]; split <;> simp_all
theorem EN_4 (len cnt st hf lt : Nat) (B : Nat → Int32) (x : Nat) : upL (EN len cnt st hf lt B) 4 (zI x) = EN len cnt st hf x B := by
  funext k; simp only [upL, EN]; split <;> simp_all
theorem EN_5 (len cnt st hf lt : Nat) (B : Nat → Int32) (j : Nat) (v : Int32) : upL (EN len cnt st hf lt B) (5 + j) v = EN len cnt st hf lt (upL B j v) := by
  funext k; simp only [upL, EN]
  by_cases h : k = 5 + j
  · subst h; rw [if_pos rfl, if_neg (by omega), if_neg (by omega), if_neg (by omega), if_neg (by omega), if_neg (by omega), if_pos (by omega)]
  · rw [if_neg h]
    by_cases h0 : k = 0; · simp [h0]
    by_cases h1 : k = 1; · simp [h1]
    by_cases h2 : k = 2; · simp [h2]
    by_cases h3 : k = 3; · simp [h3]
    by_cases h4 : k = 4; · simp [h4]
    simp only [h0, h1, h2, h3, h4, if_false]
    rw [if_neg (by omega)]
theorem en_0 (len cnt st hf lt : Nat) (B : Nat → Int32) : EN len cnt st hf lt B 0 = zI len := rfl
theorem en_1 (len cnt st hf lt : Nat) (B : Nat → Int32) : EN len cnt st hf lt B 1 = zI cnt := rfl
theorem en_2 (len cnt st hf lt : Nat) (B : Nat → Int32) : EN len cnt st hf lt B 2 = zI st := rfl
theorem en_3 (len cnt st hf lt : Nat) (B : Nat → Int32) : EN len cnt st hf lt B 3 = zI hf := rfl
theorem en_4 (len cnt st hf lt : Nat) (B : Nat → Int32) : EN len cnt st hf lt B 4 = zI lt := rfl
theorem ix_l (n k : Nat) (h : k < n) (h2 : n ≤ 2147483647) : ix (zI k) n = some k := by rw [zI_ix (by omega) (by omega) h2]; rfl
theorem ix_k (k n : Nat) (h : (OfNat.ofNat k : Nat) < n) (h2 : n ≤ 2147483647) : ix (no_index (OfNat.ofNat k) : Int32) n = some (OfNat.ofNat k) := ix_l n k h h2
theorem zN_add (a b : Nat) : zI a + zI b = zI ((a + b : Nat) : Int) := zI_add a b
theorem zN_lit (n : Nat) : (no_index (OfNat.ofNat n) : Int32) = zI ((OfNat.ofNat n : Nat) : Int) := rfl
theorem up_up (L : Nat → Int32) (j : Nat) (v w : Int32) : upL (upL L j v) j w = upL L j w := by
  funext k; simp only [upL]; split <;> simp_all
/-- one letter of a word -/
theorem g_word1 {M : MS} {T : Nat → Int32} {n p k v len cnt st hf lt : Nat} {B : Nat → Int32} (h : MT M T n) (hp : p < n) (hl : isl (T p) = true) (hv : v < 16) (f : Int32) (h5 : len < 80) : LGX11_readsWord_36 (k + 1) (zI v) (rd M (zI p) f (EN len cnt st hf lt B)) = LGX11_readsWord_36 k (zI (v + 1 : Nat)) (rd M (zI (p + 1 : Nat)) f (EN (len + 1) cnt st hf lt (upL B len (T p)))) := by
  have h0 := h.1
  rw [LGX11_readsWord_36, g_isLetter h (by omega), TX_in hp, bnd, if_neg (by simp [hl])]
  rw [if_neg (by rw [zN_lit, zI_le (by omega) (by omega) (by omega) (by omega)]; exact by omega)]
  rw [ix_k _ _ (by decide) (by decide), bnd, g_next h (by omega), bnd, TX_in hp, rd_A3, en_0]
  rw [zN_lit, zN_add, ix_l _ _ (by exact Nat.lt_of_lt_of_le (Nat.add_lt_add_left h5 5) (by decide)) (by decide), bnd, bnd, bnd, rd_eA, EN_5]
  rw [rd_A3, en_0]
  simp only [zN_lit 1, zN_add]
  rw [rd_eA, EN_0, rd_5, rd_e5, zN_add]
theorem zN_le {a b : Nat} (ha : a ≤ 2147483647) (hb : b ≤ 2147483647) : (zI a ≤ zI b) ↔ a ≤ b := by
  rw [zI_le (by omega) (by omega) (by omega) (by omega)]; omega
theorem zN_lt {a b : Nat} (ha : a ≤ 2147483647) (hb : b ≤ 2147483647) : (zI a < zI b) ↔ a < b := by
  rw [zI_lt (by omega) (by omega) (by omega) (by omega)]; omega
theorem zN_eq {a b : Nat} (ha : a ≤ 2147483647) (hb : b ≤ 2147483647) : (zI a = zI b) ↔ a = b := by
  rw [zI_eq (by omega) (by omega) (by omega) (by omega)]; omega
theorem zN_add1 (a : Nat) : zI a + 1 = zI ((a + 1 : Nat) : Int) := zI_add a 1
theorem zN_sub1 {a : Nat} (h : 0 < a) : zI a - 1 = zI ((a - 1 : Nat) : Int) := by
  rw [show ((a - 1 : Nat) : Int) = (a : Int) - 1 by omega]; exact zI_sub a 1
theorem zN_5 (a : Nat) : 5 + zI a = zI ((5 + a : Nat) : Int) := zI_add 5 a
theorem ws_no {T : Nat → Int32} {p : Nat} (h0 : 0 < p) (h : isl (T (p - 1)) = true) : wsP T p = false := by
  obtain ⟨q, rfl⟩ : ∃ q, p = q + 1 := ⟨p - 1, by omega⟩
  simp only [Nat.add_sub_cancel] at h
  simp [wsP, h]
theorem ws_yes {T : Nat → Int32} {p : Nat} (h : isl (T p) = true) (h1 : p = 0 ∨ isl (T (p - 1)) = false) : wsP T p = true := by
  cases p with
  | zero => exact h
  | succ q => rcases h1 with h1 | h1
              · cases h1
              · simp only [Nat.add_sub_cancel] at h1; simp [wsP, h, h1]
theorem in_len {Z : Nat → Int32} {T : Nat → Int32} {p : Nat} (h0 : 0 < p) (h : isl (T (p - 1)) = true) (hl : isl (T p) = true) : lenP T (p + 1) = lenP T p + 1 ∧ byP Z T (p + 1) = upL (byP Z T p) (lenP T p) (T p) ∧ cntP T (p + 1) = cntP T p := by
  have w := ws_no h0 h
  refine ⟨?_, ?_, ?_⟩
  · rw [lenP, if_pos hl, gapP, if_neg (by simp [w])]
  · rw [byP, if_pos hl, gapP, if_neg (by simp [w]), gpB, if_neg (by simp [w])]; rfl
  · rw [cntP, if_neg (by simp [w])]
/-- the letters behind the first one -/
theorem g_word {Z : Nat → Int32} {M : MS} {T : Nat → Int32} {n c st hf lt : Nat} (h : MT M T n) (f : Int32) : ∀ (d p v k : Nat), n - p ≤ d → 1 ≤ v → v ≤ 16 → p ≤ n → 0 < p → isl (T (p - 1)) = true → d < k → ∃ q, p ≤ q ∧ q ≤ n ∧ LGX11_readsWord_36 k (zI v) (rd M (zI p) f (EN (lenP T p) c st hf lt (byP Z T p))) = some (rd M (zI q) f (EN (lenP T q) c st hf lt (byP Z T q))) ∧ cntP T q = cntP T p ∧ (∀ j, p ≤ j → j < q → isl (T j) = true) ∧ (q < n → isl (T q) = true → v + (q - p) = 16) ∧ v + (q - p) ≤ 16 := by
  intro d
  have h0 := h.1
  induction d with
  | zero =>
    intro p v k h1 h2 h3 h4 h5 h6 h7
    obtain ⟨k, rfl⟩ : ∃ k', k = k' + 1 := ⟨k - 1, by omega⟩
    refine ⟨p, by omega, by omega, ?_, rfl, fun j _ _ => by omega, fun _ => by omega, by omega⟩
    rw [LGX11_readsWord_36, g_isLetter h (by omega), TX_out (by omega), bnd, if_pos (by decide)]
  | succ d ih =>
    intro p v k h1 h2 h3 h4 h5 h6 h7
    obtain ⟨k, rfl⟩ : ∃ k', k = k' + 1 := ⟨k - 1, by omega⟩
    by_cases hn : p < n
    · by_cases hl : isl (T p) = true
      · by_cases hv : v < 16
        · have hle := (lenP_le T p).1
          rw [g_word1 h hn hl hv f (by omega)]
          obtain ⟨e1, e2, e3⟩ := in_len h5 h6 hl
          rw [← e1, ← e2]
          obtain ⟨q, a1, a2, a3, a4, a5, a6, a7⟩ := ih (p + 1) (v + 1) k (by omega) (by omega) (by omega) (by omega) (by omega) hl (by omega)
          refine ⟨q, by omega, a2, a3, by rw [a4, e3], fun j j1 j2 => ?_, fun q1 q2 => ?_, by omega⟩
          · by_cases q : j = p
            · rw [q]; exact hl
            · exact a5 j (by omega) j2
          · have := a6 q1 q2; omega
        · refine ⟨p, by omega, by omega, ?_, rfl, fun j _ _ => by omega, fun _ _ => by omega, by omega⟩
          rw [LGX11_readsWord_36, g_isLetter h (by omega), TX_in hn, bnd, if_neg (by simp [hl])]
          rw [if_pos (by rw [zN_lit, zI_le (by omega) (by omega) (by omega) (by omega)]; exact by omega)]
      · refine ⟨p, by omega, by omega, ?_, rfl, fun j _ _ => by omega, fun _ q => absurd q hl, by omega⟩
        rw [LGX11_readsWord_36, g_isLetter h (by omega), TX_in hn, bnd, if_pos (by simp [hl])]
    · refine ⟨p, by omega, by omega, ?_, rfl, fun j _ _ => by omega, fun _ => by omega, by omega⟩
      rw [LGX11_readsWord_36, g_isLetter h (by omega), TX_out (by omega), bnd, if_pos (by decide)]
/-- the 85 numbers of the first i bytes read as a line -/
def enP (Z T : Nat → Int32) (i : Nat) : Nat → Int32 := EN (lenP T i) (cntP T i) (sgP T 62 i) (anP T 126 i) (anP T 47 i) (byP Z T i)
theorem l_sg {T : Nat → Int32} {c : Int32} (hc : isl c = false) : ∀ p q, p ≤ q → (∀ j, p ≤ j → j < q → isl (T j) = true) → sgP T c q = sgP T c p ∧ anP T c q = anP T c p := by
  intro p q h
  induction h with
  | refl => intro _; exact ⟨rfl, rfl⟩
  | step h ih =>
    rename_i m
    intro hj
    have hm := hj m h (by omega)
    have ne : ¬ T m = c := fun q => by rw [q, hc] at hm; cases hm
    obtain ⟨a, b⟩ := ih (fun j j1 j2 => hj j j1 (by omega))
    exact ⟨by rw [sgP, if_neg ne, a], by rw [anP, if_neg ne, b]⟩
theorem bl_l {b : Int32} (h : bls b = true) : isl b = false := by
  simp only [bls, decide_eq_true_eq] at h; subst h; decide
theorem ws_il {T : Nat → Int32} {p : Nat} (h : isl (T p) = false) : wsP T p = false := by
  cases hw : wsP T p with
  | false => rfl
  | true => rw [ws_l hw] at h; cases h
/-- blanks change nothing -/
theorem bl_en {Z : Nat → Int32} {T : Nat → Int32} : ∀ p q, p ≤ q → (∀ j, p ≤ j → j < q → bls (T j) = true) → enP Z T q = enP Z T p := by
  intro p q h
  induction h with
  | refl => intro _; rfl
  | step h ih =>
    rename_i m
    intro hj
    have hm := hj m h (by omega)
    have hl := bl_l hm
    have h32 : isl 32 = false := by decide
    have hw := ws_il hl
    simp only [bls, decide_eq_true_eq] at hm
    rw [← ih (fun j j1 j2 => hj j j1 (by omega))]
    simp [enP, lenP, cntP, sgP, anP, byP, hw, hm, h32]
theorem sc_en {Z : Nat → Int32} {T : Nat → Int32} {n p : Nat} (h : p ≤ n) : enP Z T (sc bls T n p) = enP Z T p := by
  obtain ⟨a, b, c, d⟩ := sc_spec bls T n n p (by omega) h
  exact bl_en p _ a c
/-- a word of at most 16 letters, and the blanks behind it; or the place of the seventeenth -/
theorem g_readsWord {Z : Nat → Int32} {M : MS} {T : Nat → Int32} {n p : Nat} (h : MT M T n) (hp : p < n) (hl : isl (T p) = true) (hb : p = 0 ∨ isl (T (p - 1)) = false) :
    ∃ q, p < q ∧ q ≤ n ∧ (∀ j, p ≤ j → j < q → isl (T j) = true) ∧ q - p ≤ 16 ∧ (q < n → isl (T q) = true → q = p + 16) ∧
      g_X11_readsWord (rd M (zI p) (-1) (enP Z T p)) = some (rd M (zI (sc bls T n q)) (if isl (TX T n q) = true then zI q else -1) (enP Z T q)) := by
  have h0 := h.1
  have hw := ws_yes hl hb
  have hle := lenP_le T p
  have hg := gap_le T p
  have e1 : lenP T (p + 1) = lenP T p + gapP T p + 1 := by rw [lenP, if_pos hl]
  have e2 : byP Z T (p + 1) = upL (gpB T p (byP Z T p)) (lenP T p + gapP T p) (T p) := by rw [byP, if_pos hl]
  have e3 : cntP T (p + 1) = cntP T p + 1 := by rw [cntP, if_pos hw]
  obtain ⟨q, a1, a2, a3, a4, a5, a6, a7⟩ := g_word (c := cntP T p) (st := sgP T 62 p) (hf := anP T 126 p) (lt := anP T 47 p) h (-1) (n - (p + 1)) (p + 1) 1 (FU - 1) (by omega) (by omega) (by omega) (by omega) (by omega) hl (by simp only [FU]; omega)
  have al : ∀ j, p ≤ j → j < q → isl (T j) = true := fun j j1 j2 => by
    by_cases q : j = p
    · rw [q]; exact hl
    · exact a5 j (by omega) j2
  refine ⟨q, by omega, a2, al, by omega, fun q1 q2 => by have := a6 q1 q2; omega, ?_⟩
  have hfirst : LGX11_readsWord_36 FU 0 (rd M (zI p) (-1) (EN (lenP T p + gapP T p) (cntP T p) (sgP T 62 p) (anP T 126 p) (anP T 47 p) (gpB T p (byP Z T p)))) = some (rd M (zI q) (-1) (EN (lenP T q) (cntP T p) (sgP T 62 p) (anP T 126 p) (anP T 47 p) (byP Z T q))) := by
    have := g_word1 (k := FU - 1) (v := 0) (cnt := cntP T p) (st := sgP T 62 p) (hf := anP T 126 p) (lt := anP T 47 p) (B := gpB T p (byP Z T p)) (len := lenP T p + gapP T p) h hp hl (by omega) (-1) (by omega)
    rw [show FU = FU - 1 + 1 from rfl]
    refine this.trans ?_
    rw [← e1, ← e2]
    exact a3
  have hpre : (if (mA (rd M (zI p) (-1) (enP Z T p)) 3 1) ≤ 0 then
    some (rd M (zI p) (-1) (enP Z T p))
  else
    (ix 0 85).bind fun j5 =>
    (ix (5 + (mA (rd M (zI p) (-1) (enP Z T p)) 3 j5)) 85).bind fun j7 =>
    (ix 0 85).bind fun j9 =>
    (ix 0 85).bind fun j11 =>
    some (eA (eA (rd M (zI p) (-1) (enP Z T p)) 3 j7 32) 3 j11 ((mA (eA (rd M (zI p) (-1) (enP Z T p)) 3 j7 32) 3 j9) + 1))) = some (rd M (zI p) (-1) (EN (lenP T p + gapP T p) (cntP T p) (sgP T 62 p) (anP T 126 p) (anP T 47 p) (gpB T p (byP Z T p)))) := by
    have hc : cntP T p ≤ 80 := by
      have : ∀ i, cntP T i ≤ i := by
        intro i; induction i with
        | zero => exact Nat.le_refl 0
        | succ i ih => rw [cntP]; split <;> omega
      have := this p; omega
    have hcc : (zI (cntP T p) ≤ 0) ↔ cntP T p ≤ 0 := zN_le (b := 0) (by omega) (by omega)
    rw [rd_A3, enP, en_1]
    by_cases z : 0 < cntP T p
    · have hlz := hle.2 hw z
      rw [if_neg (fun q => by have := hcc.mp q; omega), ix_k _ _ (by decide) (by decide), bnd, rd_A3, en_0, zN_5, ix_l _ _ (by omega) (by decide), bnd, bnd, bnd]
      rw [rd_eA, EN_5, rd_A3, en_0, zN_add1, rd_eA, EN_0]
      rw [gapP, if_pos ⟨hw, z⟩, gpB, if_pos ⟨hw, z⟩]
    · rw [if_pos (hcc.mpr (by omega)), gapP, if_neg (fun q => z q.2), gpB, if_neg (fun q => z q.2)]; rfl
  have sg := l_sg (T := T) (c := 62) (by decide) p q (by omega) al
  have sa := l_sg (T := T) (c := 126) (by decide) p q (by omega) al
  have sb := l_sg (T := T) (c := 47) (by decide) p q (by omega) al
  rw [g_X11_readsWord, ix_k _ _ (by decide) (by decide), bnd, show (OfNat.ofNat 1 : Nat) = 1 from rfl, hpre, bnd, hfirst, bnd, bnd, bnd, rd_A3, en_1, zN_add1, rd_eA, EN_1]
  have ee : EN (lenP T q) (cntP T p + 1) (sgP T 62 p) (anP T 126 p) (anP T 47 p) (byP Z T q) = enP Z T q := by
    rw [enP, sg.1, sa.2, sb.2, a4, e3]
  rw [ee, g_isLetter h (by omega), bnd]
  by_cases z : isl (TX T n q) = true
  · rw [if_pos z, if_neg (by decide), bnd, rd_5, rd_e6, if_pos z, g_skip h a2, bnd]
  · rw [if_neg z, if_pos rfl, bnd, rd_6, rd_e6, if_neg z, g_skip h a2, bnd]
theorem sc_uniq {P : Int32 → Bool} {T : Nat → Int32} {n p q : Nat} (h1 : p ≤ q) (h2 : q ≤ n) (h3 : ∀ j, p ≤ j → j < q → P (T j) = true) (h4 : q < n → P (T q) = false) : sc P T n p = q := by
  obtain ⟨a, b, c, d⟩ := sc_spec P T n n p (by omega) (by omega)
  by_cases e1 : sc P T n p < q
  · have x := h3 _ a e1
    have y := d (by omega)
    rw [x] at y; cases y
  · by_cases e2 : q < sc P T n p
    · have x := c q h1 e2
      have y := h4 (by omega)
      rw [x] at y; cases y
    · omega
/-- no letter stands just before p -/
def NB (T : Nat → Int32) (p : Nat) : Prop := p = 0 ∨ isl (T (p - 1)) = false
theorem NB_s {T : Nat → Int32} {p : Nat} (h : isl (T p) = false) : NB T (p + 1) := Or.inr h
theorem NB_sc {T : Nat → Int32} {n p : Nat} (hp : p ≤ n) (h : NB T p) : NB T (sc bls T n p) := by
  obtain ⟨a, b, c, d⟩ := sc_spec bls T n n p (by omega) hp
  by_cases e : sc bls T n p = p
  · rw [e]; exact h
  · exact Or.inr (bl_l (c _ (by omega) (by omega)))
theorem sg_en {Z T : Nat → Int32} {p : Nat} {c : Int32} (h : T p = c) (hc : isl c = false) : lenP T (p + 1) = lenP T p ∧ cntP T (p + 1) = cntP T p ∧ byP Z T (p + 1) = byP Z T p := by
  have hl : isl (T p) = false := by rw [h]; exact hc
  have hw := ws_il hl
  exact ⟨by rw [lenP, if_neg (by simp [hl])], by rw [cntP, if_neg (by simp [hw])], by rw [byP, if_neg (by simp [hl])]⟩
theorem en_62 {Z T : Nat → Int32} {p : Nat} (h : T p = 62) : enP Z T (p + 1) = EN (lenP T p) (cntP T p) (sgP T 62 p + 1) (anP T 126 p) (anP T 47 p) (byP Z T p) := by
  obtain ⟨a, b, c⟩ := sg_en (Z := Z) h (by decide)
  rw [enP, a, b, c, sgP, if_pos h, anP, anP, if_neg (by rw [h]; decide), if_neg (by rw [h]; decide)]
theorem en_126 {Z T : Nat → Int32} {p : Nat} (h : T p = 126) : enP Z T (p + 1) = EN (lenP T p) (cntP T p) (sgP T 62 p) 1 (anP T 47 p) (byP Z T p) := by
  obtain ⟨a, b, c⟩ := sg_en (Z := Z) h (by decide)
  rw [enP, a, b, c, sgP, if_neg (by rw [h]; decide), anP, anP, if_pos h, if_neg (by rw [h]; decide)]
theorem en_47 {Z T : Nat → Int32} {p : Nat} (h : T p = 47) : enP Z T (p + 1) = EN (lenP T p) (cntP T p) (sgP T 62 p) (anP T 126 p) 1 (byP Z T p) := by
  obtain ⟨a, b, c⟩ := sg_en (Z := Z) h (by decide)
  rw [enP, a, b, c, sgP, if_neg (by rw [h]; decide), anP, anP, if_neg (by rw [h]; decide), if_pos h]
/-- the place behind at most k steps -/
def stE (T : Nat → Int32) (n : Nat) : Nat → Nat → Nat
  | 0, p => p
  | k + 1, p => if TX T n p = 62 then stE T n k (sc bls T n (p + 1)) else p
theorem TX_lt {T : Nat → Int32} {n p : Nat} {c : Int32} (h : TX T n p = c) (hc : c ≠ -1) : p < n ∧ T p = c := by
  by_cases q : p < n
  · rw [TX_in q] at h; exact ⟨q, h⟩
  · rw [TX_out (by omega)] at h; exact absurd h.symm hc
theorem g_steps {Z : Nat → Int32} {M : MS} {T : Nat → Int32} {n : Nat} (h : MT M T n) (f : Int32) : ∀ (m p k : Nat), sgP T 62 p + m = 5 → p ≤ n → NB T p → m < k → LGX11_readsLine_55 k (rd M (zI p) f (enP Z T p)) = some (rd M (zI (stE T n m p)) f (enP Z T (stE T n m p))) ∧ stE T n m p ≤ n ∧ NB T (stE T n m p) := by
  intro m
  induction m with
  | zero =>
    intro p k h1 h2 h3 hk
    obtain ⟨k, rfl⟩ : ∃ k', k = k' + 1 := ⟨k - 1, by omega⟩
    refine ⟨?_, h2, h3⟩
    have hc : (5 : Int32) ≤ zI (sgP T 62 p) := (zN_le (a := 5) (by omega) (by omega)).mpr (by omega)
    rw [LGX11_readsLine_55, ix_k _ _ (by decide) (by decide), bnd, rd_A3, show enP Z T p (OfNat.ofNat 2) = zI (sgP T 62 p) from rfl, if_pos hc]
    rfl
  | succ m ih =>
    intro p k h1 h2 h3 hk
    obtain ⟨k, rfl⟩ : ∃ k', k = k' + 1 := ⟨k - 1, by omega⟩
    have hc : ¬ (5 : Int32) ≤ zI (sgP T 62 p) := fun q => by have := (zN_le (a := 5) (by omega) (by omega)).mp q; omega
    rw [LGX11_readsLine_55, ix_k _ _ (by decide) (by decide), bnd, rd_A3, show enP Z T p (OfNat.ofNat 2) = zI (sgP T 62 p) from rfl, if_neg hc, g_takes h h2 (by decide), bnd]
    by_cases q : TX T n p = 62
    · obtain ⟨q1, q2⟩ := TX_lt q (by decide)
      have e1 : stE T n (m + 1) p = stE T n m (sc bls T n (p + 1)) := by rw [stE, if_pos q]
      have e2 : tk T n 62 p = sc bls T n (p + 1) := by rw [tk, if_pos q]
      have e3 : enP Z T (sc bls T n (p + 1)) = enP Z T (p + 1) := sc_en (by omega)
      have e4 : sgP T 62 (sc bls T n (p + 1)) = sgP T 62 p + 1 := by
        have : enP Z T (sc bls T n (p + 1)) 2 = enP Z T (p + 1) 2 := by rw [e3]
        have hb : ∀ i, sgP T 62 i ≤ i := by
          intro i; induction i with
          | zero => exact Nat.le_refl 0
          | succ i ih => rw [sgP]; split <;> omega
        have hs := sc_spec bls T n n (p + 1) (by omega) (by omega)
        have b1 := hb (sc bls T n (p + 1)); have b2 := hb (p + 1); have h0 := h.1
        have := (zN_eq (by omega) (by omega)).mp this
        rw [this, sgP, if_pos q2]
      have hs := sc_spec bls T n n (p + 1) (by omega) (by omega)
      rw [if_neg (by simp [q]), bnd, bnd, rd_A3, show enP Z T p (OfNat.ofNat 2) = zI (sgP T 62 p) from rfl, zN_add1, rd_eA, e1, e2, enP, show (OfNat.ofNat 2 : Nat) = 2 from rfl, EN_2, ← en_62 q2, ← e3]
      exact ih _ k (by omega) (by omega) (NB_sc (by omega) (NB_s (by rw [q2]; decide))) (by omega)
    · have e1 : stE T n (m + 1) p = p := by rw [stE, if_neg q]
      have e2 : tk T n 62 p = p := by rw [tk, if_neg q]
      rw [if_pos (by simp [q]), e1, e2]
      exact ⟨rfl, h2, h3⟩
/-- the place behind the words from p on, or that of a seventeenth letter -/
def wdE (T : Nat → Int32) (n : Nat) : Nat → Nat → Nat ⊕ Nat
  | 0, p => .inl p
  | d + 1, p => if isl (TX T n p) = true then (if 16 < sc isl T n p - p then .inr (p + 16) else wdE T n d (sc bls T n (sc isl T n p))) else .inl p
theorem isl_TX {T : Nat → Int32} {n p : Nat} (h : isl (TX T n p) = true) : p < n ∧ isl (T p) = true := by
  by_cases q : p < n
  · rw [TX_in q] at h; exact ⟨q, h⟩
  · rw [TX_out (by omega)] at h; cases h
/-- what the words' loop answers -/
def wdR (T : Nat → Int32) (n : Nat) (r : Nat ⊕ Nat) (M : MS) (Z : Nat → Int32) : MS := match r with
  | .inl q => rd M (zI q) (-1) (enP Z T q)
  | .inr q => rd M (zI q) (zI q) (enP Z T q)
theorem zN_m1 {a : Nat} (h : a ≤ 2147483647) : ¬ zI a = -1 := by
  intro q
  have q1 : zI a = zI (-1) := q
  rw [zI_eq (by omega) (by omega) (by omega) (by omega)] at q1
  omega
theorem g_words {Z : Nat → Int32} {M : MS} {T : Nat → Int32} {n : Nat} (h : MT M T n) : ∀ (d p k : Nat), n - p ≤ d → p ≤ n → NB T p → d + 1 < k → LGX11_readsLine_87 k (rd M (zI p) (-1) (enP Z T p)) = some (wdR T n (wdE T n d p) M Z) ∧ (∀ q, wdE T n d p = .inl q → p ≤ q ∧ q ≤ n ∧ isl (TX T n q) = false ∧ (isl (TX T n p) = true → 0 < cntP T q) ∧ (isl (TX T n p) = false → q = p)) ∧ (∀ q, wdE T n d p = .inr q → q < n) := by
  intro d
  have h0 := h.1
  induction d with
  | zero =>
    intro p k h1 h2 h3 hk
    obtain ⟨k, rfl⟩ : ∃ k', k = k' + 1 := ⟨k - 1, by omega⟩
    refine ⟨?_, fun q hq => ?_, fun q hq => ?_⟩
    · rw [LGX11_readsLine_87, g_isLetter h (by omega), TX_out (by omega), bnd, if_pos (by decide)]; rfl
    · cases hq
      have hf : isl (TX T n p) = false := by rw [TX_out (by omega)]; rfl
      exact ⟨by omega, h2, hf, fun x => (by rw [hf] at x; cases x), fun _ => rfl⟩
    · cases hq
  | succ d ih =>
    intro p k h1 h2 h3 hk
    obtain ⟨k, rfl⟩ : ∃ k', k = k' + 1 := ⟨k - 1, by omega⟩
    by_cases hl : isl (TX T n p) = true
    · obtain ⟨l1, l2⟩ := isl_TX hl
      obtain ⟨q, a1, a2, a3, a4, a5, a6⟩ := g_readsWord (Z := Z) h l1 l2 h3
      have step : LGX11_readsLine_87 (k + 1) (rd M (zI p) (-1) (enP Z T p)) = LGX11_readsLine_87 k (rd M (zI (sc bls T n q)) (if isl (TX T n q) = true then zI q else -1) (enP Z T q)) := by
        rw [LGX11_readsLine_87, g_isLetter h (by omega), bnd, if_pos hl, if_neg (by decide), rd_6, if_neg (by simp), a6, bnd]
      obtain ⟨k, rfl⟩ : ∃ k', k = k' + 1 := ⟨k - 1, by omega⟩
      by_cases hq : isl (TX T n q) = true
      · obtain ⟨m1, m2⟩ := isl_TX hq
        have e := a5 m1 m2
        have hs := sc_spec isl T n n p (by omega) h2
        have e16 : 16 < sc isl T n p - p := by
          by_cases x : 16 < sc isl T n p - p
          · exact x
          · exfalso
            by_cases y : sc isl T n p < q
            · have u := a3 _ hs.1 y
              rw [hs.2.2.2 (by omega)] at u; cases u
            · have z : sc isl T n p = q := by omega
              have u := hs.2.2.2 (by omega)
              rw [z, m2] at u; cases u
        have ew : wdE T n (d + 1) p = .inr q := by rw [wdE, if_pos hl, if_pos e16, e]
        have es : sc bls T n q = q := sc_no m1 (by
          cases hb : bls (T q) with
          | false => rfl
          | true => rw [bl_l hb] at m2; cases m2)
        rw [ew, step, es, if_pos hq]
        refine ⟨?_, fun x hx => (by cases hx), fun x hx => by cases hx; exact m1⟩
        rw [LGX11_readsLine_87, g_isLetter h (by omega), bnd, if_pos hq, if_neg (by decide), rd_6, if_pos (zN_m1 (by omega))]; rfl
      · have hq' : isl (TX T n q) = false := by simpa using hq
        have eq : sc isl T n p = q := sc_uniq (by omega) a2 a3 (fun x => by rw [TX_in x] at hq'; exact hq')
        have ew : wdE T n (d + 1) p = wdE T n d (sc bls T n q) := by rw [wdE, if_pos hl, eq, if_neg (by omega)]
        have hs := sc_spec bls T n n q (by omega) a2
        have nb : isl (TX T n (sc bls T n q)) = true → NB T (sc bls T n q) := fun x => by
          by_cases y : sc bls T n q = q
          · rw [y, hq'] at x; cases x
          · exact Or.inr (bl_l (hs.2.2.1 _ (by omega) (by omega)))
        rw [ew, step, if_neg hq, ← sc_en (n := n) a2]
        have hcnt : 0 < cntP T q := by
          have hw := ws_yes l2 h3
          have mono : ∀ m, p + 1 ≤ m → 0 < cntP T m := by
            intro m hm
            induction hm with
            | refl => show 0 < cntP T (p + 1); rw [cntP, if_pos hw]; omega
            | step _ ih => rw [cntP]; split <;> omega
          exact mono q (by omega)
        have cs : ∀ m, q ≤ m → 0 < cntP T m := by
          intro m hm
          induction hm with
          | refl => exact hcnt
          | step _ ih => rw [cntP]; split <;> omega
        by_cases hx : isl (TX T n (sc bls T n q)) = true
        · obtain ⟨b1, b2, b3⟩ := ih (sc bls T n q) (k + 1) (by omega) (by omega) (nb hx) (by omega)
          refine ⟨b1, fun x hx => ?_, b3⟩
          obtain ⟨c1, c2, c3, c4, c5⟩ := b2 x hx
          exact ⟨by omega, c2, c3, fun _ => cs x (by omega), fun y => by rw [hl] at y; cases y⟩
        · have hx' : isl (TX T n (sc bls T n q)) = false := by simpa using hx
          have ed : wdE T n d (sc bls T n q) = .inl (sc bls T n q) := by
            cases d with
            | zero => rfl
            | succ d => rw [wdE, if_neg hx]
          rw [ed]
          refine ⟨?_, fun x hx => ?_, fun x hx => by cases hx⟩
          · rw [LGX11_readsLine_87, g_isLetter h (by omega), bnd, if_neg hx, if_pos rfl]; rfl
          · cases hx; exact ⟨by omega, by omega, hx', fun _ => cs _ (by omega), fun y => by rw [hl] at y; cases y⟩
    · have hl' : isl (TX T n p) = false := by simpa using hl
      have ed : wdE T n (d + 1) p = .inl p := by rw [wdE, if_neg hl]
      rw [ed]
      refine ⟨?_, fun x hx => ?_, fun x hx => by cases hx⟩
      · rw [LGX11_readsLine_87, g_isLetter h (by omega), bnd, if_neg hl, if_pos rfl]; rfl
      · cases hx; exact ⟨by omega, h2, hl', fun y => (by rw [hl'] at y; cases y), fun _ => rfl⟩
theorem an_no {T : Nat → Int32} {c : Int32} : ∀ p q, p ≤ q → (∀ j, p ≤ j → j < q → T j ≠ c) → anP T c q = anP T c p := by
  intro p q h
  induction h with
  | refl => intro _; rfl
  | step h ih =>
    rename_i m
    intro hj
    rw [anP, if_neg (hj m h (by omega)), ih (fun j j1 j2 => hj j j1 (by omega))]
theorem cnt_no {T : Nat → Int32} : ∀ p q, p ≤ q → (∀ j, p ≤ j → j < q → isl (T j) = false) → cntP T q = cntP T p := by
  intro p q h
  induction h with
  | refl => intro _; rfl
  | step h ih =>
    rename_i m
    intro hj
    rw [cntP, if_neg (by simp [ws_il (hj m h (by omega))]), ih (fun j j1 j2 => hj j j1 (by omega))]
/-- from p to q neither a letter nor the sign -/
theorem sc_rng {T : Nat → Int32} {n p : Nat} (hp : p ≤ n) {j : Nat} (h1 : p ≤ j) (h2 : j < sc bls T n p) : T j = 32 := by
  have := (sc_spec bls T n n p (by omega) hp).2.2.1 j h1 h2
  simpa [bls] using this
theorem tk_rng {T : Nat → Int32} {n p : Nat} {c : Int32} (hc : c ≠ -1) (hp : p ≤ n) {j : Nat} (h1 : p ≤ j) (h2 : j < tk T n c p) : T j = 32 ∨ T j = c := by
  unfold tk at h2
  split at h2
  · rename_i q
    obtain ⟨q1, q2⟩ := TX_lt q hc
    by_cases e : j = p
    · right; rw [e]; exact q2
    · left; exact sc_rng (by omega) (by omega) h2
  · omega
theorem st_rng {T : Nat → Int32} {n : Nat} : ∀ k p, p ≤ n → p ≤ stE T n k p ∧ stE T n k p ≤ n ∧ ∀ j, p ≤ j → j < stE T n k p → T j = 32 ∨ T j = 62 := by
  intro k
  induction k with
  | zero => intro p hp; exact ⟨Nat.le_refl _, hp, fun j h1 h2 => by simp [stE] at h2; omega⟩
  | succ k ih =>
    intro p hp
    by_cases q : TX T n p = 62
    · obtain ⟨q1, q2⟩ := TX_lt q (by decide)
      have hs := sc_spec bls T n n (p + 1) (by omega) (by omega)
      obtain ⟨a, b, c⟩ := ih (sc bls T n (p + 1)) hs.2.1
      rw [stE, if_pos q]
      refine ⟨by omega, b, fun j h1 h2 => ?_⟩
      by_cases e : j = p
      · right; rw [e]; exact q2
      · by_cases e2 : j < sc bls T n (p + 1)
        · left; exact sc_rng (by omega) (by omega) e2
        · exact c j (by omega) h2
    · rw [stE, if_neg q]; exact ⟨Nat.le_refl _, hp, fun j h1 h2 => by omega⟩
theorem wd_rng {T : Nat → Int32} {n : Nat} : ∀ d p, p ≤ n → ∀ q, wdE T n d p = .inl q → p ≤ q ∧ ∀ j, p ≤ j → j < q → T j = 32 ∨ isl (T j) = true := by
  intro d
  induction d with
  | zero => intro p hp q h; cases h; exact ⟨Nat.le_refl _, fun j h1 h2 => by omega⟩
  | succ d ih =>
    intro p hp q h
    rw [wdE] at h
    split at h
    · split at h
      · cases h
      · have h1 := sc_spec isl T n n p (by omega) hp
        have h2 := sc_spec bls T n n _ (by omega) h1.2.1
        obtain ⟨a, b⟩ := ih _ h2.2.1 q h
        refine ⟨by omega, fun j j1 j2 => ?_⟩
        by_cases e1 : j < sc isl T n p
        · right; exact h1.2.2.1 j j1 e1
        · by_cases e2 : j < sc bls T n (sc isl T n p)
          · left; exact sc_rng h1.2.1 (by omega) e2
          · exact b j (by omega) j2
    · cases h; exact ⟨Nat.le_refl _, fun j h1 h2 => by omega⟩
def i1P (T : Nat → Int32) (n : Nat) : Nat := tk T n 126 (sc bls T n 0)
def i2P (T : Nat → Int32) (n : Nat) : Nat := stE T n 5 (i1P T n)
/-- where the text stops being a line; -1: it is one -/
def Flt (T : Nat → Int32) (n : Nat) : Int := match wdE T n n (i2P T n) with
  | .inr q => q
  | .inl q => if isl (TX T n (i2P T n)) = true then (if tk T n 47 q < n then tk T n 47 q else -1) else i2P T n
theorem i_rng (T : Nat → Int32) (n : Nat) : i2P T n ≤ n ∧ i1P T n ≤ n ∧ (∀ j, j < i1P T n → T j = 32 ∨ T j = 126) ∧ i1P T n ≤ i2P T n ∧ ∀ j, i1P T n ≤ j → j < i2P T n → T j = 32 ∨ T j = 62 := by
  have h0 := sc_spec bls T n n 0 (by omega) (by omega)
  have h1 := tk_le (T := T) (n := n) (c := 126) (by decide) h0.2.1
  obtain ⟨a, b, c⟩ := st_rng (T := T) (n := n) 5 (i1P T n) h1.2
  refine ⟨b, h1.2, fun j hj => ?_, a, c⟩
  by_cases e : j < sc bls T n 0
  · left; exact sc_rng (by omega) (by omega) e
  · exact tk_rng (by decide) h0.2.1 (by omega) hj
theorem g_clear {M : MS} {p f : Int32} : ∀ (d k v : Nat) L, 85 - v ≤ d → v ≤ 85 → d < k → LGX11_readsLine_16 k (zI v) (rd M p f L) = some (rd M p f (fun j => if v ≤ j ∧ j < 85 then 0 else L j)) := by
  intro d
  induction d with
  | zero =>
    intro k v L h1 h2 hk
    obtain ⟨k, rfl⟩ : ∃ k', k = k' + 1 := ⟨k - 1, by omega⟩
    have hc : (85 : Int32) ≤ zI v := (zN_le (a := 85) (by omega) (by omega)).mpr (by omega)
    rw [LGX11_readsLine_16, if_pos hc]
    have : (fun j => if v ≤ j ∧ j < 85 then 0 else L j) = L := by funext j; rw [if_neg (by omega)]
    rw [this]
  | succ d ih =>
    intro k v L h1 h2 hk
    obtain ⟨k, rfl⟩ : ∃ k', k = k' + 1 := ⟨k - 1, by omega⟩
    by_cases q : v = 85
    · have hc : (85 : Int32) ≤ zI v := (zN_le (a := 85) (by omega) (by omega)).mpr (by omega)
      rw [LGX11_readsLine_16, if_pos hc]
      have : (fun j => if v ≤ j ∧ j < 85 then 0 else L j) = L := by funext j; rw [if_neg (by omega)]
      rw [this]
    · have hc : ¬ (85 : Int32) ≤ zI v := fun q => by have := (zN_le (a := 85) (by omega) (by omega)).mp q; omega
      rw [LGX11_readsLine_16, if_neg hc, ix_l _ _ (by omega) (by decide), bnd, rd_eA, zN_add1, ih k (v + 1) _ (by omega) (by omega) (by omega)]
      congr 2; funext j
      by_cases e : j = v
      · subst e; rw [if_neg (by omega), if_pos (by omega), upL, if_pos rfl]
      · by_cases e2 : v ≤ j ∧ j < 85
        · rw [if_pos (by omega), if_pos e2]
        · rw [if_neg (by omega), if_neg e2, upL, if_neg e]
theorem by_Z {Z T : Nat → Int32} (hZ : ∀ j, j < 80 → Z j = 0) : ∀ i j, j < 80 → byP Z T i j = byP (fun _ => 0) T i j := by
  intro i
  induction i with
  | zero => intro j hj; exact hZ j hj
  | succ i ih =>
    intro j hj
    rw [byP, byP]
    split
    · simp only [upL, gpB]
      split
      · rfl
      · split
        · simp only [upL]; split
          · rfl
          · exact ih j hj
        · exact ih j hj
    · exact ih j hj
theorem en_Z {Z T : Nat → Int32} (hZ : ∀ j, j < 80 → Z j = 0) (i k : Nat) (hk : k < 85) : enP Z T i k = enP (fun _ => 0) T i k := by
  simp only [enP, EN]
  split
  · rfl
  · split
    · rfl
    · split
      · rfl
      · split
        · rfl
        · split
          · rfl
          · exact by_Z hZ i _ (by omega)
theorem TX_ne {T : Nat → Int32} {n p : Nat} {c : Int32} (h : ¬ TX T n p = c) (hp : p < n) : T p ≠ c := by rw [TX_in hp] at h; exact h
theorem if01 (c : Prop) [Decidable c] : (if (if c then (1 : Int32) else 0) = 0 then some (0 : Int32) else some 1) = some (if c then 1 else 0) := by split <;> rfl
theorem g_readsLine {M : MS} {T : Nat → Int32} {n : Nat} (h : MT M T n) : ∃ (p' : Nat) (L' : Nat → Int32), g_X11_readsLine M = some (rd M (zI p') (zI (Flt T n)) L') ∧ (Flt T n = -1 → ∀ k, k < 85 → L' k = enP (fun _ => 0) T n k) := by
  have hn := h.1
  obtain ⟨Z, hZ, hL⟩ : ∃ Z : Nat → Int32, (∀ j, j < 80 → Z j = 0) ∧ (fun j => if 0 ≤ j ∧ j < 85 then 0 else (fun j => mA M 3 j) j) = enP Z T 0 := by
    refine ⟨fun j => if j < 80 then 0 else mA M 3 (j + 5), fun j hj => if_pos hj, ?_⟩
    funext j
    simp only [enP, EN, lenP, cntP, sgP, anP, byP]
    by_cases e : j < 85
    · rw [if_pos (by omega)]
      split
      · rfl
      · split
        · rfl
        · split
          · rfl
          · split
            · rfl
            · split
              · rfl
              · rw [if_pos (by omega)]
    · rw [if_neg (by omega), if_neg (by omega), if_neg (by omega), if_neg (by omega), if_neg (by omega), if_neg (by omega), if_neg (by omega), show j - 5 + 5 = j by omega]
  obtain ⟨r1, r2, r3, r4, r5⟩ := i_rng T n
  have s0 := sc_spec bls T n n 0 (by omega) (by omega)
  have a1 : g_X11_skips (eF (eF M 5 0) 6 (-1)) = some (rd M (zI (sc bls T n 0)) (-1) (fun j => mA M 3 j)) := by
    have e : eF (eF M 5 0) 6 (-1) = rd M (zI (0 : Nat)) (-1) (fun j => mA M 3 j) := by
      conv => lhs; rw [← rd_self M, rd_e5, rd_e6]
      rfl
    rw [e, g_skip h (by omega)]
  have a2 : LGX11_readsLine_16 FU 0 (rd M (zI (sc bls T n 0)) (-1) (fun j => mA M 3 j)) = some (rd M (zI (sc bls T n 0)) (-1) (enP Z T (sc bls T n 0))) := by
    have := g_clear (M := M) (p := zI (sc bls T n 0)) (f := -1) 85 FU 0 (fun j => mA M 3 j) (by omega) (by omega) (by simp only [FU]; omega)
    refine this.trans ?_
    rw [hL, sc_en (by omega)]
  have a3 : eA (rd M (zI (i1P T n)) (-1) (enP Z T (sc bls T n 0))) 3 3 (if TX T n (sc bls T n 0) = 126 then 1 else 0) = rd M (zI (i1P T n)) (-1) (enP Z T (i1P T n)) := by
    by_cases q : TX T n (sc bls T n 0) = 126
    · obtain ⟨q1, q2⟩ := TX_lt q (by decide)
      rw [if_pos q, rd_eA, enP, show (1 : Int32) = zI ((1 : Nat) : Int) from rfl, EN_3, ← en_126 q2, i1P, tk, if_pos q, sc_en (by omega)]
    · have e0 : anP T 126 (sc bls T n 0) = 0 := an_no 0 _ (by omega) (fun j j1 j2 => by rw [sc_rng (by omega) j1 j2]; decide)
      rw [if_neg q, rd_eA, enP, show (0 : Int32) = zI ((0 : Nat) : Int) from rfl, EN_3, i1P, tk, if_neg q, enP, e0]
  have nb1 : NB T (i1P T n) := by
    have n0 : NB T (sc bls T n 0) := NB_sc (by omega) (Or.inl rfl)
    unfold i1P tk
    split
    · rename_i q
      obtain ⟨q1, q2⟩ := TX_lt q (by decide)
      exact NB_sc (by omega) (NB_s (by rw [q2]; decide))
    · exact n0
  have sg0 : sgP T 62 (i1P T n) = 0 := by
    have : ∀ q, q ≤ i1P T n → sgP T 62 q = 0 := by
      intro q
      induction q with
      | zero => intro _; rfl
      | succ q ih =>
        intro hq
        rw [sgP, if_neg, ih (by omega)]
        rcases r3 q (by omega) with e | e <;> rw [e] <;> decide
    exact this _ (Nat.le_refl _)
  have cnt2 : cntP T (i2P T n) = 0 := by
    rw [cnt_no 0 (i2P T n) (by omega) (fun j _ j2 => ?_)]
    · rfl
    · by_cases e : j < i1P T n
      · rcases r3 j e with e | e <;> rw [e] <;> decide
      · rcases r5 j (by omega) j2 with e | e <;> rw [e] <;> decide
  obtain ⟨b1, b2, b3⟩ := g_steps (Z := Z) h (-1) 5 (i1P T n) FU (by omega) r2 nb1 (by simp only [FU]; omega)
  obtain ⟨c1, c2, c3⟩ := g_words (Z := Z) h n (i2P T n) FU (by omega) r1 b3 (by simp only [FU]; omega)
  have h3 : ix (3 : Int32) 85 = some 3 := rfl
  have h1 : ix (1 : Int32) 85 = some 1 := rfl
  have h4 : ix (4 : Int32) 85 = some 4 := rfl
  rw [g_X11_readsLine, a1, bnd, a2, bnd, g_takes h s0.2.1 (by decide), bnd, if01, bnd, h3, bnd]
  rw [show tk T n 126 (sc bls T n 0) = i1P T n from rfl, a3, b1, bnd, show stE T n 5 (i1P T n) = i2P T n from rfl, c1, bnd]
  cases hw : wdE T n n (i2P T n) with
  | inr q =>
    have hq := c3 q hw
    have hf : Flt T n = q := by rw [Flt, hw]
    rw [hf]
    refine ⟨q, enP Z T q, ?_, fun e => by omega⟩
    rw [show wdR T n (.inr q) M Z = rd M (zI q) (zI q) (enP Z T q) from rfl, rd_6, if_pos (zN_m1 (by omega)), bnd, rd_6, if_pos (zN_m1 (by omega))]
  | inl q =>
    obtain ⟨d1, d2, d3, d4, d5⟩ := c2 q hw
    have cb : cntP T q ≤ q := by
      have : ∀ i, cntP T i ≤ i := by
        intro i; induction i with
        | zero => exact Nat.le_refl 0
        | succ i ih => rw [cntP]; split <;> omega
      exact this q
    rw [show wdR T n (.inl q) M Z = rd M (zI q) (-1) (enP Z T q) from rfl, rd_6, if_neg (by simp), h1, bnd, rd_A3, show enP Z T q 1 = zI (cntP T q) from rfl]
    by_cases hl : isl (TX T n (i2P T n)) = true
    · have hf : Flt T n = if tk T n 47 q < n then (tk T n 47 q : Int) else -1 := by rw [Flt, hw]; simp only []; rw [if_pos hl]
      have hc := d4 hl
      have n0 : ¬ zI (cntP T q) ≤ 0 := fun x => by have := (zN_le (b := 0) (by omega) (by omega)).mp x; omega
      have e0 : anP T 47 q = 0 := by
        obtain ⟨w1, w2⟩ := wd_rng n (i2P T n) r1 q hw
        refine an_no 0 q (by omega) (fun j _ j2 => ?_)
        by_cases e : j < i1P T n
        · rcases r3 j e with e | e <;> rw [e] <;> decide
        · by_cases e' : j < i2P T n
          · rcases r5 j (by omega) e' with e | e <;> rw [e] <;> decide
          · rcases w2 j (by omega) j2 with e | e
            · rw [e]; decide
            · intro x; rw [x] at e; exact absurd e (by decide)
      have tl := tk_le (T := T) (n := n) (p := q) (c := 47) (by decide) d2
      have a4 : eA (rd M (zI (tk T n 47 q)) (-1) (enP Z T q)) 3 4 (if TX T n q = 47 then 1 else 0) = rd M (zI (tk T n 47 q)) (-1) (enP Z T (tk T n 47 q)) := by
        by_cases x : TX T n q = 47
        · obtain ⟨q1, q2⟩ := TX_lt x (by decide)
          rw [if_pos x, rd_eA, enP, show (1 : Int32) = zI ((1 : Nat) : Int) from rfl, EN_4, ← en_47 q2, tk, if_pos x, sc_en (by omega)]
        · rw [if_neg x, rd_eA, enP, show (0 : Int32) = zI ((0 : Nat) : Int) from rfl, EN_4, tk, if_neg x, enP, e0]
      have c47 : 0 < cntP T (tk T n 47 q) := by
        have mono : ∀ m, q ≤ m → 0 < cntP T m := by
          intro m hm
          induction hm with
          | refl => exact hc
          | step _ ih => rw [cntP]; split <;> omega
        exact mono _ tl.1
      have cb2 : cntP T (tk T n 47 q) ≤ 80 := by
        have : ∀ i, cntP T i ≤ i := by
          intro i; induction i with
          | zero => exact Nat.le_refl 0
          | succ i ih => rw [cntP]; split <;> omega
        have := this (tk T n 47 q); omega
      have n1 : ¬ zI (cntP T (tk T n 47 q)) = 0 := fun x => by have := (zN_eq (b := 0) (by omega) (by omega)).mp x; omega
      rw [if_neg n0, g_takes h d2 (by decide), bnd, if01, bnd, h4, bnd, a4, bnd, rd_6, if_neg (by simp), bnd, rd_A3, show enP Z T (tk T n 47 q) 1 = zI (cntP T (tk T n 47 q)) from rfl, if_neg n1, rd_4, rd_5, h.2.1, hf]
      by_cases e : tk T n 47 q < n
      · rw [if_neg (fun x => by have := (zN_le (by omega) (by omega)).mp x; omega), if_pos e, sb_inr1, rd_e6]
        exact ⟨_, _, rfl, fun x => by omega⟩
      · have en : tk T n 47 q = n := by omega
        rw [if_pos ((zN_le (by omega) (by omega)).mpr (by omega)), if_neg e, sb_inl]
        refine ⟨_, _, rfl, fun _ k hk => ?_⟩
        rw [en]; exact en_Z hZ n k hk
    · have hl' : isl (TX T n (i2P T n)) = false := by simpa using hl
      have eq := d5 hl'
      have hf : Flt T n = i2P T n := by rw [Flt, hw]; simp only []; rw [if_neg hl]
      have c0 : cntP T q = 0 := by rw [eq]; exact cnt2
      rw [c0, if_pos (by decide), bnd, rd_6, if_neg (by simp), bnd, rd_A3, show enP Z T q 1 = zI (cntP T q) from rfl, c0, if_pos (show zI ((0 : Nat) : Int) = 0 from rfl), sb_inr1, rd_5, rd_e6, hf, eq]
      exact ⟨_, _, rfl, fun x => by omega⟩

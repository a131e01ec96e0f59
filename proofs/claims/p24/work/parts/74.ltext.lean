-- the text that the law types: its signs, its words, and where it stops being a line
theorem pf_c {T T' : Nat → Int32} : ∀ n, (∀ j, j < n → T' j = T j) → cntP T' n = cntP T n ∧ (∀ c, sgP T' c n = sgP T c n) ∧ (∀ c, anP T' c n = anP T c n) ∧ ∀ k, lnP T' n k = lnP T n k := by
  intro n
  induction n with
  | zero => intro _; exact ⟨rfl, fun _ => rfl, fun _ => rfl, fun _ => rfl⟩
  | succ n ih =>
    intro h
    obtain ⟨i1, i2, i3, i4⟩ := ih (fun j hj => h j (by omega))
    have hn := h n (by omega)
    have hw : wsP T' n = wsP T n := by
      cases n with
      | zero => simp only [wsP, hn]
      | succ m => simp only [wsP, hn, h m (by omega)]
    have hc : cntP T' (n + 1) = cntP T (n + 1) := by rw [cntP, cntP, hw, i1]
    refine ⟨hc, fun c => by rw [sgP, sgP, hn, i2], fun c => by rw [anP, anP, hn, i3], fun k => ?_⟩
    rw [lnP, lnP, hn]
    by_cases q : isl (T n) = true
    · rw [if_pos q, if_pos q]
      show (if k + 1 = cntP T' (n + 1) then lnP T' n k + 1 else lnP T' n k) = (if k + 1 = cntP T (n + 1) then lnP T n k + 1 else lnP T n k)
      rw [hc, i4]
    · rw [if_neg q, if_neg q, i4]
theorem up_lt {T : Nat → Int32} {n j : Nat} {c : Int32} (h : j < n) : upL T n c j = T j := if_neg (by omega)
theorem up_at {T : Nat → Int32} {n : Nat} {c : Int32} : upL T n c n = c := if_pos rfl
theorem pf_up (T : Nat → Int32) (n : Nat) (c : Int32) : cntP (upL T n c) n = cntP T n ∧ (∀ d, sgP (upL T n c) d n = sgP T d n) ∧ (∀ d, anP (upL T n c) d n = anP T d n) ∧ ∀ k, lnP (upL T n c) n k = lnP T n k := pf_c n (fun j hj => up_lt hj)
theorem il32 : isl 32 = false := by decide
theorem il62 : isl 62 = false := by decide
theorem il47 : isl 47 = false := by decide
theorem il126 : isl 126 = false := by decide
/-- a byte that is no letter leaves words and letters -/
theorem up_no (T : Nat → Int32) (n : Nat) {c : Int32} (h : isl c = false) : cntP (upL T n c) (n + 1) = cntP T n ∧ ∀ k, lnP (upL T n c) (n + 1) k = lnP T n k := by
  obtain ⟨i1, i2, i3, i4⟩ := pf_up T n c
  have hi : isl (upL T n c n) = false := by rw [up_at]; exact h
  exact ⟨by rw [cntP, ws_il hi, if_neg (by decide), i1], fun k => by rw [lnP, hi, if_neg (by decide), i4]⟩
theorem up_sg (T : Nat → Int32) (n : Nat) (c d : Int32) : sgP (upL T n c) d (n + 1) = (if c = d then sgP T d n + 1 else sgP T d n) ∧ anP (upL T n c) d (n + 1) = (if c = d then 1 else anP T d n) := by
  obtain ⟨i1, i2, i3, i4⟩ := pf_up T n c
  exact ⟨by rw [sgP, up_at, i2], by rw [anP, up_at, i3]⟩
/-- the head of the text: the sign of a half line, steps and blanks -/
def HT (T : Nat → Int32) (n hf st : Nat) : Prop := (hf ≤ 1 ∧ hf ≤ n) ∧ (hf = 1 → T 0 = 126) ∧ (∀ j, hf ≤ j → j < n → T j = 32 ∨ T j = 62) ∧ cntP T n = 0 ∧ sgP T 62 n = st ∧ anP T 126 n = hf ∧ anP T 47 n = 0 ∧ ∀ i, lnP T n i = 0
theorem HT_0 (T : Nat → Int32) : HT T 0 0 0 := ⟨⟨by omega, by omega⟩, fun h => absurd h (by decide), fun j _ h => absurd h (Nat.not_lt_zero j), rfl, rfl, rfl, rfl, fun _ => rfl⟩
theorem HT_1 (T : Nat → Int32) : HT (upL T 0 126) 1 1 0 := by
  obtain ⟨a1, a2⟩ := up_no T 0 il126
  exact ⟨⟨by omega, by omega⟩, fun _ => up_at, fun j h1 h2 => by omega, a1, (up_sg T 0 126 62).1, (up_sg T 0 126 126).2, (up_sg T 0 126 47).2, a2⟩
theorem HT_32 {T : Nat → Int32} {n hf st : Nat} (h : HT T n hf st) : HT (upL T n 32) (n + 1) hf st := by
  obtain ⟨⟨h0, h1⟩, h2, h3, h4, h5, h6, h7, h8⟩ := h
  obtain ⟨a1, a2⟩ := up_no T n il32
  refine ⟨⟨h0, by omega⟩, fun q => ?_, fun j j1 j2 => ?_, a1.trans h4, ((up_sg T n 32 62).1.trans (if_neg (by decide))).trans h5, ((up_sg T n 32 126).2.trans (if_neg (by decide))).trans h6, ((up_sg T n 32 47).2.trans (if_neg (by decide))).trans h7, fun i => (a2 i).trans (h8 i)⟩
  · rw [up_lt (by omega)]; exact h2 q
  · by_cases q : j = n
    · rw [q, up_at]; exact Or.inl rfl
    · rw [up_lt (by omega)]; exact h3 j j1 (by omega)
theorem HT_62 {T : Nat → Int32} {n hf st : Nat} (h : HT T n hf st) : HT (upL T n 62) (n + 1) hf (st + 1) := by
  obtain ⟨⟨h0, h1⟩, h2, h3, h4, h5, h6, h7, h8⟩ := h
  obtain ⟨a1, a2⟩ := up_no T n il62
  refine ⟨⟨h0, by omega⟩, fun q => ?_, fun j j1 j2 => ?_, a1.trans h4, ((up_sg T n 62 62).1.trans (if_pos rfl)).trans (by rw [h5]), ((up_sg T n 62 126).2.trans (if_neg (by decide))).trans h6, ((up_sg T n 62 47).2.trans (if_neg (by decide))).trans h7, fun i => (a2 i).trans (h8 i)⟩
  · rw [up_lt (by omega)]; exact h2 q
  · by_cases q : j = n
    · rw [q, up_at]; exact Or.inr rfl
    · rw [up_lt (by omega)]; exact h3 j j1 (by omega)
/-- behind the head of m bytes i words, each with a blank behind it, and l letters of word i -/
def WT (T : Nat → Int32) (n m hf st : Nat) (E : Nat → Nat) (i l : Nat) : Prop := n = m + stW E i + l ∧ 0 < m ∧ ((hf ≤ 1 ∧ hf ≤ m) ∧ (hf = 1 → T 0 = 126) ∧ (∀ j, hf ≤ j → j < m → T j = 32 ∨ T j = 62) ∧ sgP T 62 m = st) ∧
  (∀ j, j < i → (∀ q, q < E j → isl (T (m + stW E j + q)) = true) ∧ T (m + stW E j + E j) = 32) ∧ (∀ q, q < l → isl (T (m + stW E i + q)) = true) ∧
  (cntP T n = i + (if l = 0 then 0 else 1) ∧ sgP T 62 n = st ∧ anP T 126 n = hf ∧ anP T 47 n = 0 ∧ ∀ j, lnP T n j = if j < i then E j else if j = i then l else 0) ∧ (l = 0 → isl (T (n - 1)) = false)
theorem WT_0 {T : Nat → Int32} {n hf st : Nat} (E : Nat → Nat) (h : HT T n hf st) (hn : 0 < n) : WT T n n hf st E 0 0 := by
  obtain ⟨⟨h0, h1⟩, h2, h3, h4, h5, h6, h7, h8⟩ := h
  refine ⟨rfl, hn, ⟨⟨h0, h1⟩, h2, h3, h5⟩, fun j hj => absurd hj (Nat.not_lt_zero j), fun q hq => absurd hq (Nat.not_lt_zero q), ⟨h4, h5, h6, h7, fun j => ?_⟩, fun _ => ?_⟩
  · rw [h8, if_neg (Nat.not_lt_zero j)]; split <;> rfl
  · by_cases q : hf ≤ n - 1
    · rcases h3 (n - 1) q (by omega) with e | e
      · rw [e]; exact il32
      · rw [e]; exact il62
    · have e1 : hf = 1 := by omega
      rw [show n - 1 = 0 by omega, h2 e1]; exact il126
theorem WT_l {T : Nat → Int32} {n m hf st i l : Nat} {E : Nat → Nat} {c : Int32} (h : WT T n m hf st E i l) (hc : isl c = true) (hc2 : c ≠ 62 ∧ c ≠ 126 ∧ c ≠ 47) : WT (upL T n c) (n + 1) m hf st E i (l + 1) := by
  obtain ⟨e, hm, ⟨⟨h0, h1⟩, h2, h3, h4⟩, h5, h6, ⟨h7, h8, h9, h10, h11⟩, h12⟩ := h
  obtain ⟨i1, i2, i3, i4⟩ := pf_up T n c
  have hi : isl (upL T n c n) = true := by rw [up_at]; exact hc
  have hst : ∀ j, j < i → m + stW E j + E j < n := fun j hj => by have := stW_m E hj; omega
  have hcn : cntP (upL T n c) (n + 1) = i + 1 := by
    rw [cntP]
    obtain ⟨n', rfl⟩ : ∃ n', n = n' + 1 := ⟨n - 1, by omega⟩
    by_cases q : l = 0
    · have hw : wsP (upL T (n' + 1) c) (n' + 1) = true := by
        rw [wsP, hi, up_lt (by omega)]
        have := h12 q
        rw [Nat.add_sub_cancel] at this
        rw [this]; rfl
      rw [hw, if_pos rfl, i1, h7, if_pos q]
    · have hw : wsP (upL T (n' + 1) c) (n' + 1) = false := by
        rw [wsP, hi, up_lt (by omega)]
        have := h6 (l - 1) (by omega)
        rw [show m + stW E i + (l - 1) = n' by omega] at this
        rw [this]; rfl
      rw [hw, if_neg (by decide), i1, h7, if_neg q]
  refine ⟨by omega, hm, ⟨⟨h0, h1⟩, fun q => ?_, fun j j1 j2 => ?_, ?_⟩, fun j hj => ?_, fun q hq => ?_, ⟨by rw [hcn, if_neg (by omega)], ((up_sg T n c 62).1.trans (if_neg hc2.1)).trans h8, ((up_sg T n c 126).2.trans (if_neg hc2.2.1)).trans h9, ((up_sg T n c 47).2.trans (if_neg hc2.2.2)).trans h10, fun j => ?_⟩, fun q => absurd q (by omega)⟩
  · rw [up_lt (by omega)]; exact h2 q
  · rw [up_lt (by omega)]; exact h3 j j1 j2
  · rw [← h4]; exact (pf_c m (fun j hj => up_lt (by omega))).2.1 62
  · have := hst j hj
    exact ⟨fun q hq => by rw [up_lt (by omega)]; exact (h5 j hj).1 q hq, by rw [up_lt this]; exact (h5 j hj).2⟩
  · by_cases z : q = l
    · rw [z, ← e]; exact hi
    · rw [up_lt (by omega)]; exact h6 q (by omega)
  · rw [lnP, hi, if_pos rfl]
    show (if j + 1 = cntP (upL T n c) (n + 1) then lnP (upL T n c) n j + 1 else lnP (upL T n c) n j) = _
    rw [hcn, i4, h11]
    by_cases z : j = i
    · subst z
      rw [if_pos rfl, if_neg (Nat.lt_irrefl j), if_pos rfl, if_neg (Nat.lt_irrefl j), if_pos rfl]
    · rw [if_neg (by omega), if_neg z, if_neg z]
theorem WT_b {T : Nat → Int32} {n m hf st i : Nat} {E : Nat → Nat} (h : WT T n m hf st E i (E i)) (hE : 1 ≤ E i) : WT (upL T n 32) (n + 1) m hf st E (i + 1) 0 := by
  obtain ⟨e, hm, ⟨⟨h0, h1⟩, h2, h3, h4⟩, h5, h6, ⟨h7, h8, h9, h10, h11⟩, h12⟩ := h
  obtain ⟨a1, a2⟩ := up_no T n il32
  have hst : ∀ j, j < i → m + stW E j + E j < n := fun j hj => by have := stW_m E hj; omega
  refine ⟨by rw [stW]; omega, hm, ⟨⟨h0, h1⟩, fun q => ?_, fun j j1 j2 => ?_, ?_⟩, fun j hj => ?_, fun q hq => absurd hq (Nat.not_lt_zero q), ⟨by rw [a1, h7, if_neg (by omega)]; rfl, ((up_sg T n 32 62).1.trans (if_neg (by decide))).trans h8, ((up_sg T n 32 126).2.trans (if_neg (by decide))).trans h9, ((up_sg T n 32 47).2.trans (if_neg (by decide))).trans h10, fun j => ?_⟩, fun _ => ?_⟩
  · rw [up_lt (by omega)]; exact h2 q
  · rw [up_lt (by omega)]; exact h3 j j1 j2
  · rw [← h4]; exact (pf_c m (fun j hj => up_lt (by omega))).2.1 62
  · by_cases z : j = i
    · subst z
      exact ⟨fun q hq => by rw [up_lt (by omega)]; exact h6 q hq, by rw [← e]; exact up_at⟩
    · have := hst j (by omega)
      exact ⟨fun q hq => by rw [up_lt (by omega)]; exact (h5 j (by omega)).1 q hq, by rw [up_lt this]; exact (h5 j (by omega)).2⟩
  · rw [a2, h11]
    by_cases z : j < i
    · rw [if_pos z, if_pos (by omega)]
    · rw [if_neg z]
      by_cases y : j = i
      · subst y; rw [if_pos rfl, if_pos (by omega)]
      · rw [if_neg y, if_neg (by omega)]; split <;> rfl
  · rw [Nat.add_sub_cancel, up_at]; exact il32
-- scanning it
theorem sc_to {P : Int32 → Bool} {T : Nat → Int32} {n : Nat} : ∀ d p, (∀ j, p ≤ j → j < p + d → P (T j) = true) → p + d ≤ n → (p + d < n → P (T (p + d)) = false) → sc P T n p = p + d := by
  intro d
  induction d with
  | zero =>
    intro p h1 h2 h3
    by_cases q : p < n
    · exact sc_no q (h3 q)
    · exact sc_end (by omega)
  | succ d ih =>
    intro p h1 h2 h3
    rw [sc_yes (by omega) (h1 p (Nat.le_refl _) (by omega)), ih (p + 1) (fun j a b => h1 j (by omega) (by omega)) (by omega) (fun q => by rw [show p + 1 + d = p + (d + 1) by omega]; exact h3 (by omega))]
    omega
theorem sg_bl {T : Nat → Int32} : ∀ d p, (∀ j, p ≤ j → j < p + d → T j = 32) → sgP T 62 (p + d) = sgP T 62 p := by
  intro d
  induction d with
  | zero => intro p _; rfl
  | succ d ih =>
    intro p h
    rw [show p + (d + 1) = p + d + 1 by omega, sgP, h (p + d) (by omega) (by omega), if_neg (by decide)]
    exact ih p (fun j a b => h j a (by omega))
theorem st_to {T : Nat → Int32} {n m : Nat} (hm : m ≤ n) (hs : m < n → T m ≠ 32 ∧ T m ≠ 62) : ∀ k p, p ≤ m → (∀ j, p ≤ j → j < m → T j = 32 ∨ T j = 62) → sgP T 62 m ≤ sgP T 62 p + k → stE T n k (sc bls T n p) = m := by
  intro k
  induction k with
  | zero =>
    intro p hp h hk
    obtain ⟨a1, a2, a3, a4⟩ := sc_spec bls T n n p (by omega) (by omega)
    have hq : sc bls T n p ≤ m := by
      by_cases z : sc bls T n p ≤ m
      · exact z
      · have := a3 m hp (by omega)
        exact absurd (by simpa [bls] using this) (hs (by omega)).1
    show sc bls T n p = m
    by_cases z : sc bls T n p = m
    · exact z
    · exfalso
      have f := a4 (by omega)
      have e : T (sc bls T n p) = 62 := by
        rcases h _ a1 (by omega) with y | y
        · rw [y] at f; exact absurd f (by decide)
        · exact y
      have g := sg_bl (T := T) (sc bls T n p - p) p (fun j j1 j2 => by have := a3 j j1 (by omega); simpa [bls] using this)
      rw [show p + (sc bls T n p - p) = sc bls T n p by omega] at g
      have g2 : sgP T 62 (sc bls T n p + 1) = sgP T 62 (sc bls T n p) + 1 := by rw [sgP, if_pos e]
      have mono : ∀ d q, sgP T 62 q ≤ sgP T 62 (q + d) := by
        intro d
        induction d with
        | zero => intro q; exact Nat.le_refl _
        | succ d ihd => intro q; rw [show q + (d + 1) = q + d + 1 by omega, sgP]; have := ihd q; split <;> omega
      have := mono (m - (sc bls T n p + 1)) (sc bls T n p + 1)
      rw [show sc bls T n p + 1 + (m - (sc bls T n p + 1)) = m by omega] at this
      omega
  | succ k ih =>
    intro p hp h hk
    obtain ⟨a1, a2, a3, a4⟩ := sc_spec bls T n n p (by omega) (by omega)
    have hq : sc bls T n p ≤ m := by
      by_cases z : sc bls T n p ≤ m
      · exact z
      · have := a3 m hp (by omega)
        exact absurd (by simpa [bls] using this) (hs (by omega)).1
    rw [stE]
    by_cases z : sc bls T n p = m
    · rw [z]
      by_cases y : m < n
      · rw [TX_in y, if_neg (hs y).2]
      · rw [TX_out (by omega), if_neg (by decide)]
    · have f := a4 (by omega)
      have e : T (sc bls T n p) = 62 := by
        rcases h _ a1 (by omega) with y | y
        · rw [y] at f; exact absurd f (by decide)
        · exact y
      rw [TX_in (by omega), if_pos e]
      have g := sg_bl (T := T) (sc bls T n p - p) p (fun j j1 j2 => by have := a3 j j1 (by omega); simpa [bls] using this)
      rw [show p + (sc bls T n p - p) = sc bls T n p by omega] at g
      have g2 : sgP T 62 (sc bls T n p + 1) = sgP T 62 (sc bls T n p) + 1 := by rw [sgP, if_pos e]
      exact ih (sc bls T n p + 1) (by omega) (fun j j1 j2 => h j (by omega) j2) (by omega)
/-- behind the head -/
theorem i2_to {T : Nat → Int32} {n m hf st : Nat} (hm : m ≤ n) (hs : m < n → isl (T m) = true) (h0 : hf ≤ 1 ∧ hf ≤ m) (h2 : hf = 1 → T 0 = 126) (h3 : ∀ j, hf ≤ j → j < m → T j = 32 ∨ T j = 62) (h4 : sgP T 62 m = st) (h5 : st ≤ 5) : i2P T n = m := by
  have hs' : m < n → T m ≠ 32 ∧ T m ≠ 62 := fun q => by
    have := hs q
    constructor
    · intro e; rw [e] at this; exact absurd this (by decide)
    · intro e; rw [e] at this; exact absurd this (by decide)
  rw [i2P, i1P]
  by_cases q : hf = 1
  · have e0 := h2 q
    rw [sc_no (p := 0) (by omega) (by rw [e0]; decide), tk, TX_in (by omega), if_pos e0]
    exact st_to hm hs' 5 1 (by omega) (fun j j1 j2 => h3 j (by omega) j2) (by omega)
  · obtain ⟨a1, a2, a3, a4⟩ := sc_spec bls T n n 0 (by omega) (by omega)
    have hq : sc bls T n 0 ≤ m := by
      by_cases z : sc bls T n 0 ≤ m
      · exact z
      · have := a3 m (by omega) (by omega)
        exact absurd (by simpa [bls] using this) (hs' (by omega)).1
    have hne : ¬ TX T n (sc bls T n 0) = 126 := by
      intro y
      obtain ⟨y1, y2⟩ := TX_lt y (by decide)
      by_cases z : sc bls T n 0 = m
      · have := hs (by omega)
        rw [z] at y2; rw [y2] at this; exact absurd this (by decide)
      · rcases h3 _ (by omega) (show sc bls T n 0 < m by omega) with w | w
        · rw [w] at y2; exact absurd y2 (by decide)
        · rw [w] at y2; exact absurd y2 (by decide)
    rw [tk, if_neg hne]
    exact st_to hm hs' 5 0 (by omega) (fun j j1 j2 => h3 j (by omega) j2) (by omega)
theorem F_a {T : Nat → Int32} {n m hf st : Nat} {E : Nat → Nat} (h : WT T n m hf st E 0 0) (h5 : st ≤ 5) : Flt T n = n := by
  obtain ⟨e, hm, ⟨h0, h2, h3, h4⟩, _⟩ := h
  have e' : n = m := e
  have hi := i2_to (n := n) (by omega) (fun q => by omega) h0 h2 h3 h4 h5
  have hx : isl (TX T n m) = false := by rw [TX_out (by omega)]; decide
  have hw : wdE T n n m = .inl m := by
    obtain ⟨d, hd⟩ : ∃ d, n = d + 1 := ⟨n - 1, by omega⟩
    rw [show wdE T n n m = wdE T n (d + 1) m by rw [← hd], wdE, hx, if_neg (by decide)]
  rw [Flt, hi, hw]
  show (if isl (TX T n m) = true then _ else (m : Int)) = _
  rw [hx, if_neg (by decide), e']
/-- all words up to the end e of the last -/
theorem wd_to {T : Nat → Int32} {n m c : Nat} {E : Nat → Nat} (hE : ∀ j, j < c → 1 ≤ E j ∧ E j ≤ 16) (hl : ∀ j, j < c → ∀ q, q < E j → isl (T (m + stW E j + q)) = true) (hb : ∀ j, j + 1 < c → T (m + stW E j + E j) = 32) (hc : 0 < c) (he : m + stW E c ≤ n + 1) (hx : isl (TX T n (m + stW E c - 1)) = false) (hq : isl (TX T n (sc bls T n (m + stW E c - 1))) = false) :
    ∀ r j d, j + r + 1 = c → r + 1 ≤ d → wdE T n d (m + stW E j) = .inl (sc bls T n (m + stW E c - 1)) := by
  intro r
  induction r with
  | zero =>
    intro j d hj hd
    obtain ⟨d, rfl⟩ : ∃ g, d = g + 1 := ⟨d - 1, by omega⟩
    obtain ⟨e1, e2⟩ := hE j (by omega)
    have es : stW E c = stW E j + E j + 1 := by rw [show c = j + 1 by omega]; rfl
    have h1 : sc isl T n (m + stW E j) = m + stW E j + E j := sc_to (E j) _ (fun q a b => by have := hl j (by omega) (q - (m + stW E j)) (by omega); rw [show m + stW E j + (q - (m + stW E j)) = q by omega] at this; exact this) (by omega) (fun q => by
      rw [show m + stW E c - 1 = m + stW E j + E j by omega, TX_in q] at hx; exact hx)
    rw [wdE, TX_in (by omega), show isl (T (m + stW E j)) = true from hl j (by omega) 0 (by omega), if_pos rfl, h1, if_neg (by omega), show m + stW E j + E j = m + stW E c - 1 by omega]
    cases d with
    | zero => rfl
    | succ d => rw [wdE, hq, if_neg (by decide)]
  | succ r ih =>
    intro j d hj hd
    obtain ⟨d, rfl⟩ : ∃ g, d = g + 1 := ⟨d - 1, by omega⟩
    obtain ⟨e1, e2⟩ := hE j (by omega)
    have hm := stW_m E (i := j + 1) (j := c) (by omega)
    obtain ⟨f1, f2⟩ := hE (j + 1) (by omega)
    have es : stW E (j + 1) = stW E j + E j + 1 := rfl
    have b32 := hb j (by omega)
    have hn1 := hl (j + 1) (by omega) 0 (by omega)
    rw [es] at hn1 hm
    have h1 : sc isl T n (m + stW E j) = m + stW E j + E j := sc_to (E j) _ (fun q a b => by have := hl j (by omega) (q - (m + stW E j)) (by omega); rw [show m + stW E j + (q - (m + stW E j)) = q by omega] at this; exact this) (by omega) (fun q => by rw [b32]; exact il32)
    have h2 : sc bls T n (m + stW E j + E j) = m + stW E j + E j + 1 := sc_to 1 _ (fun q a b => by rw [show q = m + stW E j + E j by omega, b32]; decide) (by omega) (fun q => by
      have : isl (T (m + stW E j + E j + 1)) = true := by rw [show m + stW E j + E j + 1 = m + (stW E j + E j + 1) + 0 by omega]; exact hn1
      cases hbl : bls (T (m + stW E j + E j + 1)) with
      | false => rfl
      | true =>
        have e3 : T (m + stW E j + E j + 1) = 32 := by simpa [bls] using hbl
        rw [e3] at this; exact absurd this (by decide))
    rw [wdE, TX_in (by omega), show isl (T (m + stW E j)) = true from hl j (by omega) 0 (by omega), if_pos rfl, h1, if_neg (by omega), h2, show m + stW E j + E j + 1 = m + stW E (j + 1) by rw [es]; omega]
    exact ih (j + 1) d (by omega) (by omega)
theorem F_all {T : Nat → Int32} {n m hf st c : Nat} {E : Nat → Nat} (hm0 : 0 < m) (h0 : hf ≤ 1 ∧ hf ≤ m) (h2 : hf = 1 → T 0 = 126) (h3 : ∀ j, hf ≤ j → j < m → T j = 32 ∨ T j = 62) (h4 : sgP T 62 m = st) (h5 : st ≤ 5) (hE : ∀ j, j < c → 1 ≤ E j ∧ E j ≤ 16) (hl : ∀ j, j < c → ∀ q, q < E j → isl (T (m + stW E j + q)) = true) (hb : ∀ j, j + 1 < c → T (m + stW E j + E j) = 32) (hc : 0 < c) (he : m + stW E c ≤ n + 1) (hx : isl (TX T n (m + stW E c - 1)) = false) (hq : isl (TX T n (sc bls T n (m + stW E c - 1))) = false) (ht : ¬ tk T n 47 (sc bls T n (m + stW E c - 1)) < n) : Flt T n = -1 := by
  have hc1 := stW_m E (i := 0) (j := c) hc
  have e1 := (hE 0 hc).1
  have z0 : stW E 0 = 0 := rfl
  have hl0 : isl (T m) = true := by have := hl 0 hc 0 (by omega); exact this
  have hi := i2_to (n := n) (m := m) (by omega) (fun q => hl0) h0 h2 h3 h4 h5
  have hcs : ∀ i, i ≤ stW E i := by
    intro i
    induction i with
    | zero => exact Nat.le_refl _
    | succ i ih => rw [stW]; omega
  have hw : wdE T n n m = .inl (sc bls T n (m + stW E c - 1)) := wd_to hE hl hb hc he hx hq (c - 1) 0 n (by omega) (by have := hcs c; omega)
  rw [Flt, hi, hw]
  show (if isl (TX T n m) = true then (if tk T n 47 (sc bls T n (m + stW E c - 1)) < n then _ else (-1 : Int)) else _) = _
  rw [TX_in (by omega), hl0, if_pos rfl, if_neg ht]
theorem ilm1 : isl (-1) = false := by decide
theorem F_b {T : Nat → Int32} {n m hf st i : Nat} {E : Nat → Nat} (h : WT T n m hf st E (i + 1) 0) (h5 : st ≤ 5) (hE : ∀ j, j < i + 1 → 1 ≤ E j ∧ E j ≤ 16) : Flt T n = -1 := by
  obtain ⟨e, hm, ⟨h0, h2, h3, h4⟩, h6, _⟩ := h
  have es : stW E (i + 1) = stW E i + E i + 1 := rfl
  have e32 : T (m + stW E (i + 1) - 1) = 32 := by have := (h6 i (by omega)).2; rw [show m + stW E (i + 1) - 1 = m + stW E i + E i by omega]; exact this
  have hs : sc bls T n (m + stW E (i + 1) - 1) = n := by
    have := sc_to (P := bls) (T := T) (n := n) 1 (m + stW E (i + 1) - 1) (fun q a b => by rw [show q = m + stW E (i + 1) - 1 by omega, e32]; decide) (by omega) (fun q => by omega)
    rw [this]; omega
  refine F_all hm h0 h2 h3 h4 h5 hE (fun j hj => (h6 j hj).1) (fun j hj => (h6 j (by omega)).2) (by omega) (by omega) (by rw [TX_in (by omega), e32]; exact il32) (by rw [hs, TX_out (Nat.le_refl _)]; exact ilm1) ?_
  rw [hs, tk, TX_out (Nat.le_refl _), if_neg (by decide)]
  omega
theorem F_c {T : Nat → Int32} {n m hf st i : Nat} {E : Nat → Nat} (h : WT T n m hf st E i (E i)) (h5 : st ≤ 5) (hE : ∀ j, j < i + 1 → 1 ≤ E j ∧ E j ≤ 16) : Flt T n = -1 := by
  obtain ⟨e, hm, ⟨h0, h2, h3, h4⟩, h6, h7, _⟩ := h
  have es : stW E (i + 1) = stW E i + E i + 1 := rfl
  have en : m + stW E (i + 1) - 1 = n := by omega
  have hs : sc bls T n n = n := sc_end (Nat.le_refl _)
  refine F_all hm h0 h2 h3 h4 h5 hE (fun j hj => ?_) (fun j hj => (h6 j (by omega)).2) (by omega) (by omega) (by rw [en, TX_out (Nat.le_refl _)]; exact ilm1) (by rw [en, hs, TX_out (Nat.le_refl _)]; exact ilm1) ?_
  · by_cases z : j = i
    · subst z; exact h7
    · exact (h6 j (by omega)).1
  · rw [en, hs, tk, TX_out (Nat.le_refl _), if_neg (by decide)]
    omega
theorem F_d {T : Nat → Int32} {n m hf st i : Nat} {E : Nat → Nat} (h : WT T n m hf st E i (E i)) (h5 : st ≤ 5) (hE : ∀ j, j < i + 1 → 1 ≤ E j ∧ E j ≤ 16) : Flt (upL T n 47) (n + 1) = -1 := by
  obtain ⟨e, hm, ⟨⟨h0, h1⟩, h2, h3, h4⟩, h6, h7, _⟩ := h
  have es : stW E (i + 1) = stW E i + E i + 1 := rfl
  have en : m + stW E (i + 1) - 1 = n := by omega
  have hst : ∀ j, j < i → m + stW E j + E j < n := fun j hj => by have := stW_m E hj; omega
  have hs : sc bls (upL T n 47) (n + 1) n = n := sc_no (Nat.lt_succ_self _) (by rw [up_at]; decide)
  refine F_all hm ⟨h0, h1⟩ (fun q => by rw [up_lt (by omega)]; exact h2 q) (fun j j1 j2 => by rw [up_lt (by omega)]; exact h3 j j1 j2) ((pf_c m (fun j hj => up_lt (by omega))).2.1 62 |>.trans h4) h5 hE (fun j hj q hq => ?_) (fun j hj => by rw [up_lt (hst j (by omega))]; exact (h6 j (by omega)).2) (by omega) (by omega) (by rw [en, TX_in (Nat.lt_succ_self _), up_at]; exact il47) (by rw [en, hs, TX_in (Nat.lt_succ_self _), up_at]; exact il47) ?_
  · by_cases z : j = i
    · subst z; rw [up_lt (by omega)]; exact h7 q hq
    · have := hst j (by omega)
      rw [up_lt (by omega)]; exact (h6 j (by omega)).1 q hq
  · rw [en, hs, tk, TX_in (Nat.lt_succ_self _), up_at, if_pos rfl, sc_end (Nat.le_refl _)]
    omega

/-- the class's text at u -/
def CT (σ : St) (u : Nat) (T : Nat → Int32) (n : Nat) : Prop := n ≤ 80 ∧ hpK σ u = 8 ∧ hpR σ 256 u = some (u + 1) ∧ hpK σ (u + 1) = 12 ∧ hpL σ (u + 1) = 80 ∧ hpI σ 257 u = zI n ∧ (∀ j, j < n → hpA σ (u + 1) j = T j) ∧ ∀ j, j < n → ∃ c : Nat, c < 128 ∧ T j = zI c
theorem dn_k {σ : St} {k a : Nat} (h : hpK σ a = k) : dn σ k (some a) = some a := dn_eq h
theorem zN_lt0 (p : Nat) (h : p ≤ 2147483647) : ¬ zI p < 0 := fun q => by
  have := (zN_lt (b := 0) h (by omega)).mp q
  omega
theorem c_byteAt {σ : St} {u : Nat} {T : Nat → Int32} {n p : Nat} (h : CT σ u T n) (hp : p ≤ 1000) : f_X8_byteAt σ u (zI p) = some (TX T n p) := by
  obtain ⟨h0, h1, h2, h3, h4, h5, h6, -⟩ := h
  rw [f_X8_byteAt, if_neg (zN_lt0 p (by omega)), h5]
  by_cases q : p < n
  · rw [if_neg (fun x => by have := (zN_le (by omega) (by omega)).mp x; omega), h2, dn_k h3, bnd, h4, nI_z, if_pos ((zN_lt (by omega) (by omega)).mpr (by omega)), ix_l _ _ (by omega) (by omega), bnd, h6 p q, TX_in q]
  · rw [if_pos ((zN_le (by omega) (by omega)).mpr (by omega)), TX_out (by omega)]
theorem c_isLetter (σ : St) (b : Int32) : f_X10_isLetter σ b = some (if isl b = true then 1 else 0) := by
  rw [f_X10_isLetter]
  by_cases h1 : b < 97
  · have : isl b = false := by simp only [isl, decide_eq_false_iff_not]; exact fun q => absurd q.1 (Int32.not_le.mpr h1)
    rw [if_pos h1, this]; rfl
  · rw [if_neg h1]
    by_cases h2 : 122 < b
    · have : isl b = false := by simp only [isl, decide_eq_false_iff_not]; exact fun q => absurd q.2 (Int32.not_le.mpr h2)
      rw [if_pos h2, this]; rfl
    · have : isl b = true := by simp only [isl, decide_eq_true_eq]; exact ⟨Int32.not_lt.mp h1, Int32.not_lt.mp h2⟩
      rw [if_neg h2, this]; rfl
theorem c_bl1 {σ : St} {u : Nat} {T : Nat → Int32} {n : Nat} (h : CT σ u T n) : ∀ d p, n - p ≤ d → p ≤ n → ∀ k : Nat, d < k → LX8_behindBlanks_2 k σ u (zI p) = some (zI (sc bls T n p)) := by
  intro d
  have h0 := h.1
  have h5 := h.2.2.2.2.2.1
  induction d with
  | zero =>
    intro p h1 h2 k hk
    obtain ⟨k, rfl⟩ : ∃ k', k = k' + 1 := ⟨k - 1, by omega⟩
    rw [LX8_behindBlanks_2, h5, if_pos ((zN_le (by omega) (by omega)).mpr (by omega)), sc_end (by omega)]
  | succ d ih =>
    intro p h1 h2 k hk
    obtain ⟨k, rfl⟩ : ∃ k', k = k' + 1 := ⟨k - 1, by omega⟩
    by_cases q : p < n
    · rw [LX8_behindBlanks_2, h5, if_neg (fun x => by have := (zN_le (by omega) (by omega)).mp x; omega), c_byteAt h (by omega), bnd, TX_in q]
      by_cases q2 : T p = 32
      · rw [if_neg (by simp [q2]), sc_yes q (by simp [bls, q2]), zN_add1]
        exact ih (p + 1) (by omega) (by omega) k (by omega)
      · rw [if_pos q2, sc_no q (by simp [bls, q2])]
    · rw [LX8_behindBlanks_2, h5, if_pos ((zN_le (by omega) (by omega)).mpr (by omega)), sc_end (by omega)]
theorem c_bl {σ : St} {u : Nat} {T : Nat → Int32} {n p : Nat} (h : CT σ u T n) (hp : p ≤ n) : f_X8_behindBlanks σ u (zI p) = some (zI (sc bls T n p)) := by
  have h0 := h.1
  rw [f_X8_behindBlanks, c_bl1 h (n - p) p (by omega) hp FU (by simp only [FU]; omega), bnd]
theorem c_le1 {σ : St} {u : Nat} {T : Nat → Int32} {n : Nat} (h : CT σ u T n) : ∀ d p, n - p ≤ d → p ≤ n → ∀ k : Nat, d < k → LX8_behindLetters_2 k σ u (zI p) = some (zI (sc isl T n p)) := by
  intro d
  have h0 := h.1
  have h5 := h.2.2.2.2.2.1
  induction d with
  | zero =>
    intro p h1 h2 k hk
    obtain ⟨k, rfl⟩ : ∃ k', k = k' + 1 := ⟨k - 1, by omega⟩
    rw [LX8_behindLetters_2, h5, if_pos ((zN_le (by omega) (by omega)).mpr (by omega)), sc_end (by omega)]
  | succ d ih =>
    intro p h1 h2 k hk
    obtain ⟨k, rfl⟩ : ∃ k', k = k' + 1 := ⟨k - 1, by omega⟩
    by_cases q : p < n
    · rw [LX8_behindLetters_2, h5, if_neg (fun x => by have := (zN_le (by omega) (by omega)).mp x; omega), c_byteAt h (by omega), bnd, TX_in q, c_isLetter, bnd]
      cases q2 : isl (T p) with
      | true =>
        rw [if_neg (by simp), sc_yes q q2, zN_add1]
        exact ih (p + 1) (by omega) (by omega) k (by omega)
      | false => rw [if_pos (by simp), sc_no q q2]
    · rw [LX8_behindLetters_2, h5, if_pos ((zN_le (by omega) (by omega)).mpr (by omega)), sc_end (by omega)]
theorem c_le {σ : St} {u : Nat} {T : Nat → Int32} {n p : Nat} (h : CT σ u T n) (hp : p ≤ n) : f_X8_behindLetters σ u (zI p) = some (zI (sc isl T n p)) := by
  have h0 := h.1
  rw [f_X8_behindLetters, c_le1 h (n - p) p (by omega) hp FU (by simp only [FU]; omega), bnd]
theorem c_steps {σ : St} {u : Nat} {T : Nat → Int32} {n : Nat} (h : CT σ u T n) : ∀ (m p v k : Nat), v + m = 5 → p ≤ n → m < k → LX8_lineFault_26 k σ u (zI p) (zI v) = some (zI (stE T n m p)) := by
  intro m
  have h0 := h.1
  induction m with
  | zero =>
    intro p v k h1 h2 hk
    obtain ⟨k, rfl⟩ : ∃ k', k = k' + 1 := ⟨k - 1, by omega⟩
    have hc : (5 : Int32) ≤ zI v := (zN_le (a := 5) (by omega) (by omega)).mpr (by omega)
    rw [LX8_lineFault_26, if_pos hc]; rfl
  | succ m ih =>
    intro p v k h1 h2 hk
    obtain ⟨k, rfl⟩ : ∃ k', k = k' + 1 := ⟨k - 1, by omega⟩
    have hc : ¬ (5 : Int32) ≤ zI v := fun q => by have := (zN_le (a := 5) (by omega) (by omega)).mp q; omega
    rw [LX8_lineFault_26, if_neg hc, c_byteAt h (by omega), bnd]
    by_cases q : TX T n p = 62
    · obtain ⟨q1, q2⟩ := TX_lt q (by decide)
      have hs := sc_spec bls T n n (p + 1) (by omega) (by omega)
      rw [if_neg (by simp [q]), zN_add1, c_bl h (by omega), bnd, zN_add1, stE, if_pos q]
      exact ih _ (v + 1) k (by omega) (by omega) (by omega)
    · rw [if_pos q, stE, if_neg q]
def wdC (r : Nat ⊕ Nat) : Int32 ⊕ Int32 := match r with
  | .inl q => .inr (zI q)
  | .inr q => .inl (zI q)
theorem c_words {σ : St} {u : Nat} {T : Nat → Int32} {n : Nat} (h : CT σ u T n) : ∀ (d p v k : Nat), n - p ≤ d → p ≤ n → v ≤ p → d < k → LX8_lineFault_70 k σ u (zI p) (zI v) = some (wdC (wdE T n d p)) := by
  intro d
  have h0 := h.1
  induction d with
  | zero =>
    intro p v k h1 h2 h3 hk
    obtain ⟨k, rfl⟩ : ∃ k', k = k' + 1 := ⟨k - 1, by omega⟩
    rw [LX8_lineFault_70]
    by_cases q : (80 : Int32) ≤ zI v
    · rw [if_pos q]; rfl
    · rw [if_neg q, c_byteAt h (by omega), bnd, c_isLetter, bnd, TX_out (by omega), if_pos (by decide)]; rfl
  | succ d ih =>
    intro p v k h1 h2 h3 hk
    obtain ⟨k, rfl⟩ : ∃ k', k = k' + 1 := ⟨k - 1, by omega⟩
    rw [LX8_lineFault_70]
    by_cases hl : isl (TX T n p) = true
    · obtain ⟨l1, l2⟩ := isl_TX hl
      have hc : ¬ (80 : Int32) ≤ zI v := fun q => by have := (zN_le (a := 80) (by omega) (by omega)).mp q; omega
      have hs := sc_spec isl T n n p (by omega) h2
      have hs2 := sc_spec bls T n n (sc isl T n p) (by omega) hs.2.1
      have hgt : p < sc isl T n p := by
        have := sc_spec isl T n n (p + 1) (by omega) (by omega)
        rw [sc_yes l1 l2]; omega
      rw [if_neg hc, c_byteAt h (by omega), bnd, c_isLetter, bnd, if_pos hl, if_neg (by decide), c_le h h2, bnd, wdE, if_pos hl]
      have hsub : zI (sc isl T n p) - zI p = zI ((sc isl T n p - p : Nat) : Int) := by
        rw [zI_sub]; congr 1; omega
      rw [hsub]
      by_cases e : 16 < sc isl T n p - p
      · have hc2 : ¬ zI ((sc isl T n p - p : Nat) : Int) ≤ (16 : Int32) := fun q => by have := (zN_le (b := 16) (by omega) (by omega)).mp q; omega
        rw [if_neg hc2, if_pos e]
        show some (Sum.inl (zI p + 16)) = some (Sum.inl (zI ((p + 16 : Nat) : Int)))
        rw [← zN_add p 16]; rfl
      · have hc2 : zI ((sc isl T n p - p : Nat) : Int) ≤ (16 : Int32) := (zN_le (b := 16) (by omega) (by omega)).mpr (by omega)
        rw [if_pos hc2, if_neg e, c_bl h hs.2.1, bnd, zN_add1]
        exact ih _ (v + 1) k (by omega) (by omega) (by omega) (by omega)
    · rw [wdE, if_neg hl]
      by_cases q : (80 : Int32) ≤ zI v
      · rw [if_pos q]; rfl
      · rw [if_neg q, c_byteAt h (by omega), bnd, c_isLetter, bnd, if_neg hl, if_pos rfl]; rfl
theorem c_lineFault {σ : St} {u : Nat} {T : Nat → Int32} {n : Nat} (h : CT σ u T n) : f_X8_lineFault σ u = some (zI (Flt T n)) := by
  have hn := h.1
  obtain ⟨r1, r2, r3, r4, r5⟩ := i_rng T n
  have s0 := sc_spec bls T n n 0 (by omega) (by omega)
  have a0 : f_X8_behindBlanks σ u 0 = some (zI (sc bls T n 0)) := c_bl (p := 0) h (by omega)
  have a1 : (if ¬ TX T n (sc bls T n 0) = 126 then some (zI (sc bls T n 0)) else (f_X8_behindBlanks σ u (zI (sc bls T n 0) + 1)).bind fun q7 => some q7) = some (zI (i1P T n)) := by
    by_cases q : TX T n (sc bls T n 0) = 126
    · obtain ⟨q1, q2⟩ := TX_lt q (by decide)
      rw [if_neg (by simp [q]), zN_add1, c_bl h (by omega), bnd, i1P, tk, if_pos q]
    · rw [if_pos q, i1P, tk, if_neg q]
  have a2 : LX8_lineFault_26 FU σ u (zI (i1P T n)) 0 = some (zI (i2P T n)) := c_steps h 5 (i1P T n) 0 FU (by omega) r2 (by simp only [FU]; omega)
  have a3 : LX8_lineFault_70 FU σ u (zI (i2P T n)) 0 = some (wdC (wdE T n n (i2P T n))) := c_words h n (i2P T n) 0 FU (by omega) r1 (by omega) (by simp only [FU]; omega)
  rw [f_X8_lineFault, a0, bnd, c_byteAt h (by omega), bnd, a1, bnd, a2, bnd, c_byteAt h (by omega), bnd, c_isLetter, bnd]
  by_cases hl : isl (TX T n (i2P T n)) = true
  · rw [if_pos hl, if_pos (by decide), a3]
    cases hw : wdE T n n (i2P T n) with
    | inr q => rw [Flt, hw, show wdC (.inr q) = .inl (zI q) from rfl, sb_inl]
    | inl q =>
      have hq : q ≤ n := by
        have : ∀ d p, p ≤ n → ∀ q, wdE T n d p = .inl q → q ≤ n := by
          intro d
          induction d with
          | zero => intro p hp q h; cases h; exact hp
          | succ d ih =>
            intro p hp q h
            rw [wdE] at h
            split at h
            · split at h
              · cases h
              · have h1 := sc_spec isl T n n p (by omega) hp
                have h2 := sc_spec bls T n n _ (by omega) h1.2.1
                exact ih _ h2.2.1 q h
            · cases h; exact hp
        exact this n _ r1 q hw
      have hf : Flt T n = if tk T n 47 q < n then (tk T n 47 q : Int) else -1 := by rw [Flt, hw]; simp only []; rw [if_pos hl]
      have tl := tk_le (T := T) (n := n) (p := q) (c := 47) (by decide) hq
      have a4 : (if ¬ TX T n q = 47 then some (zI q) else (f_X8_behindBlanks σ u (zI q + 1)).bind fun q39 => some q39) = some (zI (tk T n 47 q)) := by
        by_cases x : TX T n q = 47
        · obtain ⟨q1, q2⟩ := TX_lt x (by decide)
          rw [if_neg (by simp [x]), zN_add1, c_bl h (by omega), bnd, tk, if_pos x]
        · rw [if_pos x, tk, if_neg x]
      rw [show wdC (.inl q) = .inr (zI q) from rfl, sb_inr1, c_byteAt h (by omega), bnd, a4, bnd, h.2.2.2.2.2.1, hf]
      by_cases e : tk T n 47 q < n
      · rw [if_neg (fun x => by have := (zN_le (by omega) (by omega)).mp x; omega), if_pos e]
      · rw [if_pos ((zN_le (by omega) (by omega)).mpr (by omega)), if_neg e]; rfl
  · have hl' : isl (TX T n (i2P T n)) = false := by simpa using hl
    have hw : wdE T n n (i2P T n) = .inl (i2P T n) := by
      cases n with
      | zero => rfl
      | succ n => rw [wdE, if_neg hl]
    have hf : Flt T n = i2P T n := by rw [Flt, hw]; simp only []; rw [if_neg hl]
    rw [if_neg hl, if_neg (by decide), hf]
/-- what lies below b is the same -/
def AG (b : Nat) (σ τ : St) : Prop := (∀ a, a < b → hpK τ a = hpK σ a ∧ hpL τ a = hpL σ a ∧ (∀ f, hpI τ f a = hpI σ f a) ∧ (∀ f, hpR τ f a = hpR σ f a) ∧ (∀ f, hpJ τ f a = hpJ σ f a) ∧ (∀ j, hpA τ a j = hpA σ a j) ∧ (∀ j, hpB τ a j = hpB σ a j)) ∧ ∀ i, hpG τ i = hpG σ i
theorem AG_refl (b : Nat) (σ : St) : AG b σ σ := ⟨fun _ _ => ⟨rfl, rfl, fun _ => rfl, fun _ => rfl, fun _ => rfl, fun _ => rfl, fun _ => rfl⟩, fun _ => rfl⟩
theorem AG_trans {b : Nat} {σ τ ρ : St} (h : AG b σ τ) (g : AG b τ ρ) : AG b σ ρ :=
  ⟨fun a ha => ⟨(g.1 a ha).1.trans (h.1 a ha).1, (g.1 a ha).2.1.trans (h.1 a ha).2.1, fun f => ((g.1 a ha).2.2.1 f).trans ((h.1 a ha).2.2.1 f), fun f => ((g.1 a ha).2.2.2.1 f).trans ((h.1 a ha).2.2.2.1 f), fun f => ((g.1 a ha).2.2.2.2.1 f).trans ((h.1 a ha).2.2.2.2.1 f), fun f => ((g.1 a ha).2.2.2.2.2.1 f).trans ((h.1 a ha).2.2.2.2.2.1 f), fun f => ((g.1 a ha).2.2.2.2.2.2 f).trans ((h.1 a ha).2.2.2.2.2.2 f)⟩, fun i => (g.2 i).trans (h.2 i)⟩
theorem AG_stI {b : Nat} {σ τ : St} (h : AG b σ τ) (f0 a0 : Nat) (v : Int32) (ha : b ≤ a0) : AG b σ (stI τ f0 a0 v) :=
  AG_trans h ⟨fun a h1 => ⟨rfl, rfl, fun f => (by rw [hpI_stI, if_neg (by omega)]), fun _ => rfl, fun _ => rfl, fun _ => rfl, fun _ => rfl⟩, fun _ => rfl⟩
theorem AG_stR {b : Nat} {σ τ : St} (h : AG b σ τ) (f0 a0 : Nat) (v : Option Nat) (ha : b ≤ a0) : AG b σ (stR τ f0 a0 v) :=
  AG_trans h ⟨fun a h1 => ⟨rfl, rfl, fun _ => rfl, fun f => (by rw [hpR_stR, if_neg (by omega)]), fun _ => rfl, fun _ => rfl, fun _ => rfl⟩, fun _ => rfl⟩
theorem AG_stA {b : Nat} {σ τ : St} (h : AG b σ τ) (a0 j0 : Nat) (v : Int32) (ha : b ≤ a0) : AG b σ (stA τ a0 j0 v) :=
  AG_trans h ⟨fun a h1 => ⟨rfl, rfl, fun _ => rfl, fun _ => rfl, fun _ => rfl, fun j => (by rw [hpA_stA, if_neg (by omega)]), fun _ => rfl⟩, fun _ => rfl⟩
theorem AG_nw {b : Nat} {σ τ : St} (h : AG b σ τ) (k len sz : Nat) (ha : b ≤ hpN τ) : AG b σ (nw τ k len sz) :=
  AG_trans h ⟨fun a h1 => ⟨by rw [hpK_nw, if_neg (by omega)], by rw [hpL_nw, if_neg (by omega)], fun f => (by rw [hpI_nw, if_neg (by omega)]), fun f => (by rw [hpR_nw, if_neg (by omega)]), fun f => (by rw [hpJ_nw, if_neg (by omega)]), fun f => (by rw [hpA_nw, if_neg (by omega)]), fun f => (by rw [hpB_nw, if_neg (by omega)])⟩, fun _ => rfl⟩
theorem CT_AG {b : Nat} {σ τ : St} {u n : Nat} {T : Nat → Int32} (h : CT σ u T n) (g : AG b σ τ) (hu : u + 1 < b) : CT τ u T n := by
  obtain ⟨h0, h1, h2, h3, h4, h5, h6, h7⟩ := h
  have g0 := g.1 u (by omega)
  have g1 := g.1 (u + 1) hu
  exact ⟨h0, g0.1.trans h1, (g0.2.2.2.1 256).trans h2, g1.1.trans h3, g1.2.1.trans h4, (g0.2.2.1 257).trans h5, fun j hj => (g1.2.2.2.2.2.1 j).trans (h6 j hj), h7⟩
/-- the same room taken -/
def SZ (σ τ : St) : Prop := hpN τ = hpN σ ∧ hpC τ = hpC σ ∧ hpS τ = hpS σ
/-- a line's words at w -/
def CW (σ : St) (w len cnt lt : Nat) (B : Nat → Int32) (E : Nat → Nat) : Prop := hpK σ w = 9 ∧ hpR σ 288 w = some (w + 1) ∧ hpK σ (w + 1) = 12 ∧ hpL σ (w + 1) = 80 ∧ hpR σ 289 w = some (w + 2) ∧ hpK σ (w + 2) = 13 ∧ hpL σ (w + 2) = 40 ∧ hpI σ 290 w = zI len ∧ hpI σ 291 w = zI cnt ∧ hpI σ 292 w = zI lt ∧ (∀ j, j < 80 → hpA σ (w + 1) j = B j) ∧ ∀ j, j < 40 → hpA σ (w + 2) j = zI (E j)
set_option maxRecDepth 100000 in
theorem i8 (c : Nat) (h : c < 128) : (((zI c).toInt8.toInt32).toInt8.toInt32) = zI c := by
  have : ∀ c : Fin 128, (((zI ((c : Nat) : Int)).toInt8.toInt32).toInt8.toInt32) = zI ((c : Nat) : Int) := by decide
  exact this ⟨c, h⟩
theorem c_append {σ : St} {w len cnt lt c : Nat} {B : Nat → Int32} {E : Nat → Nat} (h : CW σ w len cnt lt B E) (hl : len < 80) (hc : c < 128) : ∃ τ, f_X9_append σ w (zI c) = some τ ∧ CW τ w (len + 1) cnt lt (upL B len (zI c)) E ∧ AG w σ τ ∧ SZ σ τ := by
  obtain ⟨h1, h2, h3, h4, h5, h6, h7, h8, h9, h10, h11, h12⟩ := h
  refine ⟨stI (stA σ (w + 1) len (zI c)) 290 w (zI ((len + 1 : Nat) : Int)), ?_, ⟨h1, h2, h3, h4, h5, h6, h7, ?_, ?_, ?_, ?_, ?_⟩, AG_stI (AG_stA (AG_refl w σ) _ _ _ (by omega)) _ _ _ (by omega), ⟨rfl, rfl, rfl⟩⟩
  · rw [f_X9_append, h8, if_neg (zN_lt0 len (by omega)), h2, dn_k h3, bnd, h4, nI_z, if_neg (fun x => by have := (zN_le (by omega) (by omega)).mp x; omega), ix_l _ _ hl (by omega), bnd, i8 c hc, hpI_stA, h8, zN_add1]
  · simp [hsx]
  · simp [hsx, h9]
  · simp [hsx, h10]
  · intro j hj; simp only [hsx, upL]; by_cases e : j = len
    · simp [e]
    · simp [e, h11 j hj]
  · intro j hj; simp only [hsx]; rw [if_neg (by omega)]; exact h12 j hj
theorem c_add {σ : St} {w len cnt lt c : Nat} {B : Nat → Int32} {E : Nat → Nat} (b : Bool) (h : CW σ w len cnt lt B E) (hl : len + (if b = true ∧ 0 < cnt then 1 else 0) < 80) (hc : c < 128) (hk : (if b then cnt + 1 else cnt) ≤ 40) (hb : 0 < (if b then cnt + 1 else cnt)) (hlt : lt < 1000) :
    ∃ τ, f_X9_add σ w (zI c) (if b then 1 else 0) = some τ ∧ CW τ w (len + (if b = true ∧ 0 < cnt then 1 else 0) + 1) (if b then cnt + 1 else cnt) (lt + 1) (upL (if b = true ∧ 0 < cnt then upL B len 32 else B) (len + (if b = true ∧ 0 < cnt then 1 else 0)) (zI c)) (fun k => if k + 1 = (if b then cnt + 1 else cnt) then E k + 1 else E k) ∧ AG w σ τ ∧ SZ σ τ := by
  -- behind the beginning of a word
  have s1 : ∃ τ, (if (if b then (1 : Int32) else 0) = 0 then some σ else
    (if (hpI σ 291 w) ≤ 0 then some σ else (f_X9_append σ w 32).bind fun q5 => some q5).bind fun (x3 : St) =>
    (dn x3 9 (some w)).bind fun a7 =>
    some (stI x3 291 a7 ((hpI x3 291 a7) + 1))) = some τ ∧ CW τ w (len + (if b = true ∧ 0 < cnt then 1 else 0)) (if b then cnt + 1 else cnt) lt (if b = true ∧ 0 < cnt then upL B len 32 else B) E ∧ AG w σ τ ∧ SZ σ τ := by
    cases b with
    | false => exact ⟨σ, rfl, h, AG_refl w σ, ⟨rfl, rfl, rfl⟩⟩
    | true =>
      have fin : ∀ ρ len B, CW ρ w len cnt lt B E → AG w σ ρ → SZ σ ρ → ∃ τ, ((dn ρ 9 (some w)).bind fun a7 => some (stI ρ 291 a7 ((hpI ρ 291 a7) + 1))) = some τ ∧ CW τ w len (cnt + 1) lt B E ∧ AG w σ τ ∧ SZ σ τ := by
        intro ρ len B hh g z
        obtain ⟨h1, h2, h3, h4, h5, h6, h7, h8, h9, h10, h11, h12⟩ := hh
        refine ⟨stI ρ 291 w (zI ((cnt + 1 : Nat) : Int)), ?_, ⟨h1, h2, h3, h4, h5, h6, h7, ?_, ?_, ?_, h11, h12⟩, AG_stI g _ _ _ (by omega), z⟩
        · rw [dn_k h1, bnd, h9, zN_add1]
        · simp [hsx, h8]
        · simp [hsx]
        · simp [hsx, h10]
      rw [if_neg (by decide), h.2.2.2.2.2.2.2.2.1]
      by_cases z : 0 < cnt
      · obtain ⟨τ, e1, e2, e3, e4⟩ := c_append (c := 32) h (by simp [z] at hl; omega) (by omega)
        have e1' : f_X9_append σ w 32 = some τ := e1
        have hz : ¬ zI (cnt : Int) ≤ 0 := fun x => by have := (zN_le (b := 0) (by simp at hk; omega) (by omega)).mp x; omega
        rw [if_neg hz, e1', bnd, bnd]
        have r := fin τ (len + 1) _ e2 e3 e4
        simp only [z, and_self, if_true]
        exact r
      · have hz : zI (cnt : Int) ≤ 0 := (zN_le (b := 0) (by simp at hk; omega) (by omega)).mpr (by omega)
        rw [if_pos hz, bnd]
        have r := fin σ len B h (AG_refl w σ) ⟨rfl, rfl, rfl⟩
        simp only [z, and_false, if_false, if_true]
        exact r
  obtain ⟨σ1, a1, a2, a3, a4⟩ := s1
  obtain ⟨σ2, b1, b2, b3, b4⟩ := c_append (c := c) a2 hl hc
  rw [f_X9_add, a1, bnd, dn_k a2.1, bnd, b1, bnd, dn_k b2.1, bnd]
  generalize (if b then cnt + 1 else cnt) = cn at *
  generalize (if b = true ∧ 0 < cnt then 1 else 0) = gp at *
  generalize (if b = true ∧ 0 < cnt then upL B len 32 else B) = B1 at *
  obtain ⟨h1, h2, h3, h4, h5, h6, h7, h8, h9, h10, h11, h12⟩ := b2
  have e1 : hpI (stI σ2 292 w (hpI σ2 292 w + 1)) 291 w = zI cn := by simp [hsx, h9]
  have e2 : hpR (stI σ2 292 w (hpI σ2 292 w + 1)) 289 w = some (w + 2) := by simp [hsx, h5]
  have e3 : dnA (stI σ2 292 w (hpI σ2 292 w + 1)) (some (w + 2)) = some (w + 2) := dnA_eq (by simpa [hsx] using h6)
  have e4 : dn (stI σ2 292 w (hpI σ2 292 w + 1)) 13 (some (w + 2)) = some (w + 2) := dn_eq (by simpa [hsx] using h6)
  have e5 : hpL (stI σ2 292 w (hpI σ2 292 w + 1)) (w + 2) = 40 := h7
  have e6 : zI (cn : Int) - 1 = zI ((cn - 1 : Nat) : Int) := zN_sub1 hb
  have e7 : hpA (stI σ2 292 w (hpI σ2 292 w + 1)) (w + 2) (cn - 1) = zI (E (cn - 1)) := h12 _ (by omega)
  rw [e1, if_neg (fun x => by have := (zN_le (b := 0) (by omega) (by omega)).mp x; omega), e2, e3, bnd, e5, nI_z, if_neg (fun x => by have := (zN_lt (by omega) (by omega)).mp x; omega), e6, ix_l _ _ (by omega) (by omega), bnd, e4, bnd, e5, ix_l _ _ (by omega) (by omega), bnd, e7]
  refine ⟨_, rfl, ⟨h1, h2, h3, h4, h5, h6, h7, ?_, ?_, ?_, ?_, ?_⟩, AG_stA (AG_stI (AG_trans a3 b3) _ _ _ (by omega)) _ _ _ (by omega), ?_⟩
  · simp [hsx, h8]
  · simp [hsx, h9]
  · simp [hsx, h10]; exact zN_add1 lt
  · intro j hj; simp only [hsx]; rw [if_neg (by omega)]; exact h11 j hj
  · intro j hj; rw [hpA_stA]
    by_cases q : j = cn - 1
    · subst q
      rw [if_pos ⟨rfl, rfl⟩, zN_add1]; show _ = zI ((if cn - 1 + 1 = cn then E (cn - 1) + 1 else E (cn - 1) : Nat) : Int); rw [if_pos (by omega)]
    · rw [if_neg (fun x => q x.2)]; show _ = zI ((if j + 1 = cn then E j + 1 else E j : Nat) : Int); rw [if_neg (by omega)]; exact h12 j hj
  · exact ⟨b4.1.trans a4.1, b4.2.1.trans a4.2.1, b4.2.2.trans a4.2.2⟩
/-- letters among the first i bytes -/
def ltP (T : Nat → Int32) : Nat → Nat
  | 0 => 0
  | i + 1 => if isl (T i) = true then ltP T i + 1 else ltP T i
theorem cnt_half (T : Nat → Int32) : ∀ i, 2 * cntP T i ≤ i + 1 ∧ (wsP T i = true → 2 * cntP T i ≤ i)
  | 0 => ⟨by simp [cntP], fun _ => by simp [cntP]⟩
  | i + 1 => by
    obtain ⟨a, b⟩ := cnt_half T i
    cases hw : wsP T i with
    | true =>
      have := b hw
      refine ⟨by rw [cntP, if_pos hw]; omega, fun q => ?_⟩
      have hl := ws_l hw
      simp [wsP, hl] at q
    | false =>
      refine ⟨by rw [cntP, if_neg (by simp [hw])]; omega, fun q => ?_⟩
      rw [cntP, if_neg (by simp [hw])]; omega
theorem lt_le (T : Nat → Int32) : ∀ i, ltP T i ≤ i
  | 0 => Nat.le_refl 0
  | i + 1 => by have := lt_le T i; rw [ltP]; split <;> omega
theorem ws_nx {T : Nat → Int32} {i : Nat} (hl : isl (T i) = true) : wsP T i = !(if i = 0 then false else isl (T (i - 1))) := by
  cases i with
  | zero => simp [wsP, hl]
  | succ i => simp [wsP, hl]
theorem cnt_pos {T : Nat → Int32} : ∀ i, isl (T i) = true → 0 < cntP T (i + 1)
  | 0, h => by rw [cntP, if_pos (show wsP T 0 = true from h)]; omega
  | i + 1, h => by
    cases hw : wsP T (i + 1) with
    | true => rw [cntP, if_pos hw]; omega
    | false =>
      rw [cntP, if_neg (by simp [hw])]
      have : isl (T i) = true := by
        cases q : isl (T i) with
        | true => rfl
        | false => simp [wsP, h, q] at hw
      exact cnt_pos i this
theorem c_toLine1 {σ : St} {u w : Nat} {Z T : Nat → Int32} {n : Nat} (hu : u + 1 < w) : ∀ (d i k : Nat) (τ : St), n - i ≤ d → i ≤ n → d < k → CT τ u T n → CW τ w (lenP T i) (cntP T i) (ltP T i) (byP Z T i) (lnP T i) → AG w σ τ → SZ σ τ →
    ∃ ρ, LX8_toLine_18 k u (some w) (zI (anP T 126 i)) (zI (anP T 47 i)) (zI (sgP T 62 i)) (zI i) τ = some (zI (anP T 126 n), zI (anP T 47 n), zI (sgP T 62 n), ρ) ∧ CT ρ u T n ∧ CW ρ w (lenP T n) (cntP T n) (ltP T n) (byP Z T n) (lnP T n) ∧ AG w σ ρ ∧ SZ σ ρ := by
  intro d
  induction d with
  | zero =>
    intro i k τ h1 h2 hk ht hw ha hz
    obtain ⟨k, rfl⟩ : ∃ k', k = k' + 1 := ⟨k - 1, by omega⟩
    have e : i = n := by omega
    subst e
    have hn := ht.1
    refine ⟨τ, ?_, ht, hw, ha, hz⟩
    rw [LX8_toLine_18, dn_k ht.2.1, bnd, ht.2.2.2.2.2.1, if_pos ((zN_le (by omega) (by omega)).mpr (by omega))]
  | succ d ih =>
    intro i k τ h1 h2 hk ht hw ha hz
    obtain ⟨k, rfl⟩ : ∃ k', k = k' + 1 := ⟨k - 1, by omega⟩
    have hn := ht.1
    by_cases q : i < n
    · obtain ⟨c, hc, hT⟩ := ht.2.2.2.2.2.2.2 i q
      rw [LX8_toLine_18, dn_k ht.2.1, bnd, ht.2.2.2.2.2.1, if_neg (fun x => by have := (zN_le (by omega) (by omega)).mp x; omega), c_byteAt ht (by omega), bnd, c_isLetter, bnd, TX_in q]
      cases hl : isl (T i) with
      | false =>
        have hwf := ws_il hl
        have e1 : lenP T (i + 1) = lenP T i := by rw [lenP, if_neg (by simp [hl])]
        have e2 : cntP T (i + 1) = cntP T i := by rw [cntP, if_neg (by simp [hwf])]
        have e3 : ltP T (i + 1) = ltP T i := by rw [ltP, if_neg (by simp [hl])]
        have e4 : byP Z T (i + 1) = byP Z T i := by rw [byP, if_neg (by simp [hl])]
        have e5 : lnP T (i + 1) = lnP T i := by rw [lnP, if_neg (by simp [hl])]
        have hw' : CW τ w (lenP T (i + 1)) (cntP T (i + 1)) (ltP T (i + 1)) (byP Z T (i + 1)) (lnP T (i + 1)) := by rw [e1, e2, e3, e4, e5]; exact hw
        have step : ∀ a b c' : Nat, anP T 126 (i + 1) = a → anP T 47 (i + 1) = b → sgP T 62 (i + 1) = c' → ∃ ρ, LX8_toLine_18 k u (some w) (zI a) (zI b) (zI c') (zI i + 1) τ = some (zI (anP T 126 n), zI (anP T 47 n), zI (sgP T 62 n), ρ) ∧ CT ρ u T n ∧ CW ρ w (lenP T n) (cntP T n) (ltP T n) (byP Z T n) (lnP T n) ∧ AG w σ ρ ∧ SZ σ ρ := by
          intro a b c' r1 r2 r3
          rw [zN_add1, ← r1, ← r2, ← r3]
          exact ih (i + 1) k τ (by omega) (by omega) (by omega) ht hw' ha hz
        rw [if_neg (by simp : ¬ false = true), if_pos rfl]
        by_cases x1 : T i = 126
        · have y2 : ¬ T i = 47 := by rw [x1]; decide
          have y3 : ¬ T i = 62 := by rw [x1]; decide
          rw [if_neg (by simp [x1]), bnd]
          exact step 1 _ _ (by rw [anP, if_pos x1]) (by rw [anP, if_neg y2]) (by rw [sgP, if_neg y3])
        · rw [if_pos x1]
          by_cases x3 : T i = 62
          · have y2 : ¬ T i = 47 := by rw [x3]; decide
            rw [if_neg (by simp [x3]), bnd, zN_add1]
            exact step _ _ (sgP T 62 i + 1) (by rw [anP, if_neg x1]) (by rw [anP, if_neg y2]) (by rw [sgP, if_pos x3])
          · rw [if_pos x3]
            by_cases x2 : T i = 47
            · rw [if_neg (by simp [x2]), bnd]
              exact step _ 1 _ (by rw [anP, if_neg x1]) (by rw [anP, if_pos x2]) (by rw [sgP, if_neg x3])
            · rw [if_pos x2, bnd]
              exact step _ _ _ (by rw [anP, if_neg x1]) (by rw [anP, if_neg x2]) (by rw [sgP, if_neg x3])
      | true =>
        have y1 : ¬ T i = 126 := fun e => by rw [e] at hl; exact absurd hl (by decide)
        have y2 : ¬ T i = 47 := fun e => by rw [e] at hl; exact absurd hl (by decide)
        have y3 : ¬ T i = 62 := fun e => by rw [e] at hl; exact absurd hl (by decide)
        have hprev : ∃ b, f_X8_byteAt τ u (zI i - 1) = some b ∧ isl b = (if i = 0 then false else isl (T (i - 1))) := by
          by_cases z : i = 0
          · subst z
            refine ⟨-1, ?_, rfl⟩
            rw [f_X8_byteAt, if_pos (by decide)]
          · refine ⟨T (i - 1), ?_, by rw [if_neg z]⟩
            rw [zN_sub1 (by omega), c_byteAt ht (by omega), TX_in (by omega)]
        obtain ⟨b, hb1, hb2⟩ := hprev
        have hws := ws_nx hl
        have hx : (if ¬ (if isl b = true then (1 : Int32) else 0) = 0 then some (0 : Int32) else some 1) = some (if wsP T i then 1 else 0) := by
          rw [hws, ← hb2]; cases isl b <;> rfl
        have hcnt := cnt_half T (i + 1)
        have hcp := cnt_pos i hl
        have ecn : (if wsP T i = true then cntP T i + 1 else cntP T i) = cntP T (i + 1) := by rw [cntP]
        have hg := gap_le T i
        have hgp : (if wsP T i = true ∧ 0 < cntP T i then 1 else 0) = gapP T i := rfl
        have hlt := lt_le T i
        obtain ⟨ρ, p1, p2, p3, p4⟩ := c_add (c := c) (wsP T i) hw (by rw [hgp]; omega) hc (by rw [ecn]; omega) (by rw [ecn]; omega) (by omega)
        rw [if_pos rfl, if_neg (by decide), hb1, bnd, c_isLetter, bnd, hx, bnd, dn_k hw.1, bnd, hT, p1, bnd, bnd, zN_add1]
        have r1 : anP T 126 (i + 1) = anP T 126 i := by rw [anP, if_neg y1]
        have r2 : anP T 47 (i + 1) = anP T 47 i := by rw [anP, if_neg y2]
        have r3 : sgP T 62 (i + 1) = sgP T 62 i := by rw [sgP, if_neg y3]
        have e1 : lenP T (i + 1) = lenP T i + gapP T i + 1 := by rw [lenP, if_pos hl]
        have e3 : ltP T (i + 1) = ltP T i + 1 := by rw [ltP, if_pos hl]
        have e4 : byP Z T (i + 1) = upL (gpB T i (byP Z T i)) (lenP T i + gapP T i) (T i) := by rw [byP, if_pos hl]
        have e5 : lnP T (i + 1) = fun k => if k + 1 = cntP T (i + 1) then lnP T i k + 1 else lnP T i k := by rw [lnP, if_pos hl]
        have hw' : CW ρ w (lenP T (i + 1)) (cntP T (i + 1)) (ltP T (i + 1)) (byP Z T (i + 1)) (lnP T (i + 1)) := by
          rw [e1, e3, e4, e5, hT, ← ecn]; exact p2
        have := ih (i + 1) k ρ (by omega) (by omega) (by omega) (CT_AG ht p3 hu) hw' (AG_trans ha p3) ⟨p4.1.trans hz.1, p4.2.1.trans hz.2.1, p4.2.2.trans hz.2.2⟩
        rw [r1, r2, r3] at this
        exact this
    · have e : i = n := by omega
      subst e
      refine ⟨τ, ?_, ht, hw, ha, hz⟩
      rw [LX8_toLine_18, dn_k ht.2.1, bnd, ht.2.2.2.2.2.1, if_pos ((zN_le (by omega) (by omega)).mpr (by omega))]
theorem nwO_ok {σ : St} {k : Nat} (h1 : hpC σ + 1 ≤ NX) (h2 : hpS σ + nfl k ≤ SX) : nwO σ k = some (nw σ k 0 (nfl k)) := by rw [nwO, if_pos ⟨h1, h2⟩]
theorem nwA_ok {σ : St} {k n : Nat} (hn : n ≤ 1000000) (h1 : hpC σ + 1 ≤ NX) (h2 : hpS σ + n ≤ SX) : nwA σ k (zI n) = some (nw σ k n n) := by
  have e : (zI (n : Int)).toNatClampNeg = n := by
    simp only [Int32.toNatClampNeg, zI_int (a := n) (by omega) (by omega)]; rfl
  rw [nwA, e, if_neg]
  intro q
  rcases q with q | q | q
  · exact zN_lt0 n (by omega) q
  · omega
  · exact q ⟨h1, h2⟩
/-- a line at a -/
def CL (σ : St) (a len cnt lt st hf la : Nat) (B : Nat → Int32) (E : Nat → Nat) : Prop := hpK σ a = 2 ∧ (∃ w, w + 2 < a ∧ hpR σ 64 a = some w ∧ CW σ w len cnt lt B E) ∧ hpI σ 65 a = zI st ∧ hpI σ 66 a = zI hf ∧ hpI σ 67 a = zI la
theorem CW_AG {b : Nat} {σ τ : St} {w len cnt lt : Nat} {B : Nat → Int32} {E : Nat → Nat} (h : CW σ w len cnt lt B E) (g : AG b σ τ) (hw : w + 2 < b) : CW τ w len cnt lt B E := by
  obtain ⟨h1, h2, h3, h4, h5, h6, h7, h8, h9, h10, h11, h12⟩ := h
  have g0 := g.1 w (by omega)
  have g1 := g.1 (w + 1) (by omega)
  have g2 := g.1 (w + 2) (by omega)
  exact ⟨g0.1.trans h1, (g0.2.2.2.1 _).trans h2, g1.1.trans h3, g1.2.1.trans h4, (g0.2.2.2.1 _).trans h5, g2.1.trans h6, g2.2.1.trans h7, (g0.2.2.1 _).trans h8, (g0.2.2.1 _).trans h9, (g0.2.2.1 _).trans h10, fun j hj => (g1.2.2.2.2.2.1 j).trans (h11 j hj), fun j hj => (g2.2.2.2.2.2.1 j).trans (h12 j hj)⟩
theorem c_words0 {σ : St} {w : Nat} (hN : hpN σ = w + 1) (hk : hpK σ w = 9) (h1 : hpC σ + 2 ≤ NX) (h2 : hpS σ + 120 ≤ SX) : ∃ τ, f_X9_init σ w = some τ ∧ CW τ w 0 0 0 (fun _ => 0) (fun _ => 0) ∧ AG w σ τ ∧ hpN τ = w + 3 ∧ hpC τ = hpC σ + 2 ∧ hpS τ = hpS σ + 120 := by
  have a1 : nwA σ 12 80 = some (nw σ 12 80 80) := nwA_ok (n := 80) (by omega) (by omega) (by omega)
  have k1 : hpK (nw σ 12 80 80) w = 9 := by rw [hpK_nw, if_neg (by omega)]; exact hk
  have a2 : ∀ ρ : St, hpC ρ = hpC σ + 1 → hpS ρ = hpS σ + 80 → nwA ρ 13 40 = some (nw ρ 13 40 40) := fun ρ r1 r2 => nwA_ok (n := 40) (by omega) (by omega) (by omega)
  have k2 : hpK (nw (stR (nw σ 12 80 80) 288 w (some (hpN σ))) 13 40 40) w = 9 := by
    rw [hpK_nw, if_neg (by rw [hpN_stR, hpN_nw]; omega), hpK_stR]; exact k1
  rw [f_X9_init, a1, bnd, dn_k k1, bnd, a2 _ rfl rfl, bnd, dn_k k2, bnd]
  refine ⟨_, rfl, ⟨?_, ?_, ?_, ?_, ?_, ?_, ?_, ?_, ?_, ?_, ?_, ?_⟩, ?_, ?_, rfl, rfl⟩
  · simpa only [hsx] using k2
  · simp [hsx, hN]; omega
  · simp [hsx, hN]
  · simp [hsx, hN]
  · simp [hsx, hN]
  · simp [hsx, hN]
  · simp [hsx, hN]
  · simp [hsx]; rfl
  · simp [hsx]; rfl
  · simp [hsx]; rfl
  · intro j hj; simp [hsx, hN]
  · intro j hj; simp [hsx, hN]; rfl
  · refine AG_stI (AG_stI (AG_stI (AG_stR (AG_nw (AG_stR (AG_nw (AG_refl w σ) _ _ _ (by omega)) _ _ _ (by omega)) _ _ _ ?_) _ _ _ (by omega)) _ _ _ (by omega)) _ _ _ (by omega)) _ _ _ (by omega)
    rw [hpN_stR, hpN_nw]; omega
  · simp only [hsx]; omega

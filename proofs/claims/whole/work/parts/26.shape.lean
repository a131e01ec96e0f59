def nmE (T : Nat → Int32) (p : Nat) (g : Nat → Int32) : Nat → Nat → Bool
  | 0, _ => true
  | d + 1, k => if T (p + k) = g k then nmE T p g d (k + 1) else false
def nmG (s k : Nat) : Int32 := (strByt.getD s []).getD k 0
/-- the letters from p to q are the name of shape s -/
def nmB (T : Nat → Int32) (p q s : Nat) : Bool := decide (q - p = strLen.getD s 0) && nmE T p (nmG s) (strLen.getD s 0) 0
def shP (T : Nat → Int32) (p q : Nat) : Int := if nmB T p q 0 = true then 0 else if nmB T p q 1 = true then 1 else if nmB T p q 2 = true then 2 else if nmB T p q 3 = true then 3 else -1
def p0P (T : Nat → Int32) (n : Nat) : Nat := sc bls T n 0
def q0P (T : Nat → Int32) (n : Nat) : Nat := sc isl T n (p0P T n)
/-- the shape that the text names, or -1; and where it stops being a shape's name -/
def Shp (T : Nat → Int32) (n : Nat) : Int := shP T (p0P T n) (q0P T n)
def SFl (T : Nat → Int32) (n : Nat) : Int := if Shp T n = -1 then p0P T n else if sc bls T n (q0P T n) < n then sc bls T n (q0P T n) else -1
def MTt (M : MS) (T : Nat → Int32) (n : Nat) : Prop := n ≤ 80 ∧ mF M 4 = zI n ∧ ∀ j, j < n → mA M 2 j = T j
theorem g_isName1 {M : MS} {T : Nat → Int32} {n p ln : Nat} {l2 : Int64} {g : Nat → Int32} (hn : n ≤ 80) (hA : ∀ j, j < n → mA M 2 j = T j) (hp : p + ln ≤ n) (hl : ln ≤ 7) (hg : ∀ k, k < ln → (((l2 >>> ((8 * ((zI ln - 1) - zI k)).toInt64 &&& 63)) &&& 127)).toInt32 = g k) : ∀ d k f, k + d = ln → d < f → LGX11_isName_21 f M (zI p) l2 (zI ln) 1 (zI k) = some (if nmE T p g d k = true then 1 else 0) := by
  intro d
  induction d with
  | zero =>
    intro k f h1 h2
    obtain ⟨f, rfl⟩ : ∃ f', f = f' + 1 := ⟨f - 1, by omega⟩
    rw [LGX11_isName_21, if_pos ((zN_le (by omega) (by omega)).mpr (by omega))]; rfl
  | succ d ih =>
    intro k f h1 h2
    obtain ⟨f, rfl⟩ : ∃ f', f = f' + 1 := ⟨f - 1, by omega⟩
    rw [LGX11_isName_21, if_neg (fun x => by have := (zN_le (by omega) (by omega)).mp x; omega), if_neg (by decide), zN_add, ix_l _ _ (by omega) (by omega), bnd, hA _ (by omega), hg k (by omega)]
    by_cases q : T (p + k) = g k
    · rw [if_neg (by simp [q]), bnd, zN_add1, ih (k + 1) f (by omega) (by omega)]
      conv => rhs; rw [nmE, if_pos q]
    · rw [if_pos q, bnd, nmE, if_neg q]
      cases f with
      | zero => omega
      | succ f =>
        rw [LGX11_isName_21]
        split
        · rfl
        · rfl
theorem g_isName {M : MS} {T : Nat → Int32} {n p q s : Nat} {l2 : Int64} (hn : n ≤ 80) (hA : ∀ j, j < n → mA M 2 j = T j) (h5 : mF M 5 = zI q) (hq : q ≤ n) (hp : p ≤ q) (hl0 : 0 < strLen.getD s 0) (hl : strLen.getD s 0 ≤ 7) (hg : ∀ k, k < strLen.getD s 0 → (((l2 >>> ((8 * ((zI (strLen.getD s 0 : Nat) - 1) - zI k)).toInt64 &&& 63)) &&& 127)).toInt32 = nmG s k) : g_X11_isName M (zI p) l2 (zI (strLen.getD s 0 : Nat)) = some (if nmB T p q s = true then 1 else 0) := by
  have e : zI (q : Int) - zI p = zI ((q - p : Nat) : Int) := by rw [zI_sub]; congr 1; omega
  rw [g_X11_isName, h5, e]
  by_cases x : q - p = strLen.getD s 0
  · rw [if_neg (by simp [x]), bnd, show (0 : Int32) = zI ((0 : Nat) : Int) from rfl, g_isName1 hn hA (by omega) hl hg (strLen.getD s 0) 0 FU (by omega) (by simp only [FU]; omega), bnd]
    have : nmB T p q s = nmE T p (nmG s) (strLen.getD s 0) 0 := by rw [nmB, x]; simp
    rw [this, gz_b, bnd]; rfl
  · have xz : ¬ zI ((q - p : Nat) : Int) = zI (strLen.getD s 0 : Nat) := fun y => x ((zN_eq (by omega) (by omega)).mp y)
    have hz : ¬ zI ((strLen.getD s 0 : Nat) : Int) ≤ 0 := fun y => by have := (zN_le (b := 0) (by omega) (by omega)).mp y; omega
    rw [if_pos xz, bnd, show FU = (FU - 1) + 1 from rfl, LGX11_isName_21, if_neg hz, if_pos rfl, bnd]
    have : nmB T p q s = false := by rw [nmB]; simp only [x, decide_false, Bool.false_and]
    rw [this]; rfl
theorem g_letters {M : MS} {T : Nat → Int32} {n : Nat} (h : MT M T n) (l1 : Int32) : ∀ d p, n - p ≤ d → p ≤ n → ∀ (k : Nat) f L, d < k → LGX11_readsShape_19 k l1 (rd M (zI p) f L) = some (rd M (zI (sc isl T n p)) f L) := by
  intro d
  have h0 := h.1
  induction d with
  | zero =>
    intro p h1 h2 k f L hk
    obtain ⟨k, rfl⟩ : ∃ k', k = k' + 1 := ⟨k - 1, by omega⟩
    rw [LGX11_readsShape_19, g_isLetter h (by omega), bnd, TX_out (by omega), if_pos (by decide), sc_end (by omega)]
  | succ d ih =>
    intro p h1 h2 k f L hk
    obtain ⟨k, rfl⟩ : ∃ k', k = k' + 1 := ⟨k - 1, by omega⟩
    rw [LGX11_readsShape_19, g_isLetter h (by omega), bnd]
    by_cases q : p < n
    · rw [TX_in q]
      cases q2 : isl (T p) with
      | true =>
        rw [if_neg (by simp), sc_yes q q2, rd_5, rd_e5, zN_add1]
        exact ih (p + 1) (by omega) (by omega) k f L (by omega)
      | false => rw [if_pos (by simp), sc_no q q2]
    · rw [TX_out (by omega), if_pos (by decide), sc_end (by omega)]
theorem rd_e8 (M : MS) (p f : Int32) (L : Nat → Int32) (v : Int32) : eF (rd M p f L) 8 v = rd (eF M 8 v) p f L := by
  simp only [rd, eF, Prod.mk.injEq, and_true]
  funext k; by_cases h : k = 8 <;> by_cases h2 : k = 5 <;> by_cases h3 : k = 6 <;> simp [*] <;> omega
theorem g_readsShape {M : MS} {T : Nat → Int32} {n : Nat} (h : MT M T n) : ∃ p' : Nat, g_X11_readsShape M = some (rd (eF M 8 (zI (Shp T n))) (zI p') (zI (SFl T n)) (fun j => mA M 3 j)) := by
  have hn := h.1
  have s0 := sc_spec bls T n n 0 (by omega) (by omega)
  have s1 := sc_spec isl T n n (p0P T n) (by omega) s0.2.1
  have s2 := sc_spec bls T n n (q0P T n) (by omega) s1.2.1
  have a1 : g_X11_skips (eF (eF M 5 0) 6 (-1)) = some (rd M (zI (p0P T n)) (-1) (fun j => mA M 3 j)) := by
    have e : eF (eF M 5 0) 6 (-1) = rd M (zI (0 : Nat)) (-1) (fun j => mA M 3 j) := by
      conv => lhs; rw [← rd_self M, rd_e5, rd_e6]
      rfl
    rw [e, g_skip h (by omega)]; rfl
  have a2 : LGX11_readsShape_19 FU (zI (p0P T n)) (rd M (zI (p0P T n)) (-1) (fun j => mA M 3 j)) = some (rd M (zI (q0P T n)) (-1) (fun j => mA M 3 j)) := g_letters h _ n (p0P T n) (by omega) s0.2.1 FU _ _ (by simp only [FU]; omega)
  have nmq : ∀ (s : Nat) (l2 : Int64) (ln : Int32), ln = zI (strLen.getD s 0 : Nat) → 0 < strLen.getD s 0 → strLen.getD s 0 ≤ 7 → (∀ k, k < strLen.getD s 0 → (((l2 >>> ((8 * ((zI (strLen.getD s 0 : Nat) - 1) - zI k)).toInt64 &&& 63)) &&& 127)).toInt32 = nmG s k) → g_X11_isName (rd M (zI (q0P T n)) (-1) (fun j => mA M 3 j)) (zI (p0P T n)) l2 ln = some (if nmB T (p0P T n) (q0P T n) s = true then 1 else 0) := by
    intro s l2 ln e h1 h2 h3
    rw [e]
    exact g_isName hn (fun j hj => h.2.2.1 j hj) rfl s1.2.1 s1.1 h1 h2 h3
  have n0 := nmq 0 126931137819237 6 rfl (by decide) (by decide) (by decide)
  have n1 := nmq 1 512802187109 5 rfl (by decide) (by decide) (by decide)
  have n2 := nmq 2 28263364839829092 7 rfl (by decide) (by decide) (by decide)
  have n3 := nmq 3 444199957363 5 rfl (by decide) (by decide) (by decide)
  have tail : (if ¬ (mF (eF (rd M (zI (q0P T n)) (-1) (fun j => mA M 3 j)) 8 (zI (Shp T n))) 8) = (-1) then
    (g_X11_skips (eF (rd M (zI (q0P T n)) (-1) (fun j => mA M 3 j)) 8 (zI (Shp T n)))).bind fun q21 =>
    (if (mF q21 4) ≤ (mF q21 5) then
      some (-1)
    else
      some (mF q21 5)).bind fun (x23 : Int32) =>
    some (eF q21 6 x23)
  else
    some (eF (eF (rd M (zI (q0P T n)) (-1) (fun j => mA M 3 j)) 8 (zI (Shp T n))) 6 (zI (p0P T n)))) = some (rd (eF M 8 (zI (Shp T n))) (if Shp T n = -1 then zI (q0P T n) else zI (sc bls T n (q0P T n))) (zI (SFl T n)) (fun j => mA M 3 j)) := by
    have hb : Shp T n = -1 ∨ (0 ≤ Shp T n ∧ Shp T n ≤ 3) := by
      unfold Shp shP
      repeat' split
      all_goals omega
    have hm : MT (eF M 8 (zI (Shp T n))) T n := ⟨h.1, h.2.1, h.2.2.1, h.2.2.2⟩
    have e8 : mF (eF (rd M (zI (q0P T n)) (-1) (fun j => mA M 3 j)) 8 (zI (Shp T n))) 8 = zI (Shp T n) := rfl
    rw [e8, rd_e8]
    by_cases x : Shp T n = -1
    · have y : zI (Shp T n) = -1 := by rw [x]; rfl
      rw [if_neg (by simp [y]), rd_e6, if_pos x, SFl, if_pos x]
    · have y : ¬ zI (Shp T n) = -1 := fun y => by
        have : zI (Shp T n) = zI (-1) := y
        rw [zI_eq (by omega) (by omega) (by omega) (by omega)] at this
        exact x this
      rw [if_pos y, g_skip (p := q0P T n) hm s1.2.1, bnd, rd_4, rd_5, if_neg x, SFl, if_neg x, hm.2.1]
      by_cases z : sc bls T n (q0P T n) < n
      · rw [if_neg (fun w => by have := (zN_le (by omega) (by omega)).mp w; omega), bnd, if_pos z, rd_e6]
      · rw [if_pos ((zN_le (by omega) (by omega)).mpr (by omega)), bnd, if_neg z, rd_e6]; rfl
  refine ⟨if Shp T n = -1 then q0P T n else sc bls T n (q0P T n), ?_⟩
  rw [g_X11_readsShape, a1, bnd, rd_5, a2, bnd, n0, bnd]
  have fin : ∀ z : Int32, z = zI (Shp T n) → (some z).bind (fun (x9 : Int32) =>
  if ¬ (mF (eF (rd M (zI (q0P T n)) (-1) (fun j => mA M 3 j)) 8 x9) 8) = (-1) then
    (g_X11_skips (eF (rd M (zI (q0P T n)) (-1) (fun j => mA M 3 j)) 8 x9)).bind fun q21 =>
    (if (mF q21 4) ≤ (mF q21 5) then
      some (-1)
    else
      some (mF q21 5)).bind fun (x23 : Int32) =>
    some (eF q21 6 x23)
  else
    some (eF (eF (rd M (zI (q0P T n)) (-1) (fun j => mA M 3 j)) 8 x9) 6 (zI (p0P T n)))) = some (rd (eF M 8 (zI (Shp T n))) (zI ((if Shp T n = -1 then q0P T n else sc bls T n (q0P T n) : Nat) : Int)) (zI (SFl T n)) (fun j => mA M 3 j)) := by
    intro z hz
    rw [bnd, hz, tail]
    split <;> rfl
  cases b0 : nmB T (p0P T n) (q0P T n) 0 with
  | true =>
    rw [if_neg (show ¬ (if true = true then (1 : Int32) else 0) = 0 by decide)]
    exact fin 0 (by rw [Shp, shP, b0]; rfl)
  | false =>
    rw [if_pos (show (if false = true then (1 : Int32) else 0) = 0 from rfl), n1, bnd]
    cases b1 : nmB T (p0P T n) (q0P T n) 1 with
    | true =>
      rw [if_neg (show ¬ (if true = true then (1 : Int32) else 0) = 0 by decide)]
      exact fin 1 (by rw [Shp, shP, b0, b1]; rfl)
    | false =>
      rw [if_pos (show (if false = true then (1 : Int32) else 0) = 0 from rfl), n2, bnd]
      cases b2 : nmB T (p0P T n) (q0P T n) 2 with
      | true =>
        rw [if_neg (show ¬ (if true = true then (1 : Int32) else 0) = 0 by decide)]
        exact fin 2 (by rw [Shp, shP, b0, b1, b2]; rfl)
      | false =>
        rw [if_pos (show (if false = true then (1 : Int32) else 0) = 0 from rfl), n3, bnd]
        cases b3 : nmB T (p0P T n) (q0P T n) 3 with
        | true =>
          rw [if_neg (show ¬ (if true = true then (1 : Int32) else 0) = 0 by decide)]
          exact fin 3 (by rw [Shp, shP, b0, b1, b2, b3]; rfl)
        | false =>
          rw [if_pos (show (if false = true then (1 : Int32) else 0) = 0 from rfl)]
          exact fin (-1) (by rw [Shp, shP, b0, b1, b2, b3]; rfl)
theorem c_isBet1 {σ : St} {u : Nat} {T : Nat → Int32} {n p s : Nat} (h : CT σ u T n) (hs : s < 5) (hl : strLen.getD s 0 ≤ 7) (hp : p + strLen.getD s 0 ≤ n) : ∀ d k f, k + d = strLen.getD s 0 → d < f → LX8_isBetween_15 f σ u (zI p) s (zI k) = some (if nmE T p (nmG s) d k = true then .inr () else .inl 0) := by
  intro d
  have hn := h.1
  have hk : kS s = some s := by rw [kS, if_pos hs]
  induction d with
  | zero =>
    intro k f h1 h2
    obtain ⟨f, rfl⟩ : ∃ f', f = f' + 1 := ⟨f - 1, by omega⟩
    rw [LX8_isBetween_15, hk, bnd, nI_z, if_pos ((zN_le (by omega) (by omega)).mpr (by omega))]; rfl
  | succ d ih =>
    intro k f h1 h2
    obtain ⟨f, rfl⟩ : ∃ f', f = f' + 1 := ⟨f - 1, by omega⟩
    have hx : ixS (zI k) s = some k := by rw [ixS, if_pos hs, ix_l _ _ (by omega) (by omega)]
    rw [LX8_isBetween_15, hk, bnd, nI_z, if_neg (fun x => by have := (zN_le (by omega) (by omega)).mp x; omega), zN_add, c_byteAt h (by omega), bnd, hx, bnd, TX_in (by omega)]
    by_cases q : T (p + k) = nmG s k
    · rw [if_pos (show T (p + k) = (strByt.getD s []).getD k 0 from q), zN_add1, ih (k + 1) f (by omega) (by omega)]
      conv => rhs; rw [nmE, if_pos q]
    · rw [if_neg (show ¬ T (p + k) = (strByt.getD s []).getD k 0 from q), nmE, if_neg q]; rfl
theorem c_isBet {σ : St} {u : Nat} {T : Nat → Int32} {n p q s : Nat} (h : CT σ u T n) (hs : s < 5) (hl : strLen.getD s 0 ≤ 7) (hp : p ≤ q) (hq : q ≤ n) : f_X8_isBetween σ u (zI p) (zI q) s = some (if nmB T p q s = true then 1 else 0) := by
  have hn := h.1
  have hk : kS s = some s := by rw [kS, if_pos hs]
  have e : zI (q : Int) - zI p = zI ((q - p : Nat) : Int) := by rw [zI_sub]; congr 1; omega
  rw [f_X8_isBetween, hk, bnd, e, nI_z]
  by_cases x : q - p = strLen.getD s 0
  · have e2 : LX8_isBetween_15 FU σ u (zI p) s 0 = _ := c_isBet1 h hs hl (by omega) (strLen.getD s 0) 0 FU (by omega) (by simp only [FU]; omega)
    have : nmB T p q s = nmE T p (nmG s) (strLen.getD s 0) 0 := by rw [nmB, x]; simp
    rw [if_pos (by rw [x]), e2, this]
    split
    · rfl
    · rfl
  · have xz : ¬ zI ((q - p : Nat) : Int) = zI (strLen.getD s 0 : Nat) := fun y => x ((zN_eq (by omega) (by omega)).mp y)
    have : nmB T p q s = false := by rw [nmB]; simp only [x, decide_false, Bool.false_and]
    rw [if_neg xz, this]; rfl
theorem c_named {σ : St} {u : Nat} {T : Nat → Int32} {n : Nat} (h : CT σ u T n) : f_X8_namedShape σ u = some (zI (Shp T n)) := by
  have hn := h.1
  have s0 := sc_spec bls T n n 0 (by omega) (by omega)
  have s1 := sc_spec isl T n n (p0P T n) (by omega) s0.2.1
  have a0 : f_X8_behindBlanks σ u 0 = some (zI (p0P T n)) := c_bl (p := 0) h (by omega)
  have a1 : f_X8_behindLetters σ u (zI (p0P T n)) = some (zI (q0P T n)) := c_le h s0.2.1
  have nm : ∀ s, s < 4 → f_X8_isBetween σ u (zI (p0P T n)) (zI (q0P T n)) s = some (if nmB T (p0P T n) (q0P T n) s = true then 1 else 0) := by
    intro s hs
    refine c_isBet h (by omega) ?_ s1.1 s1.2.1
    match s, hs with
    | 0, _ => decide
    | 1, _ => decide
    | 2, _ => decide
    | 3, _ => decide
  have st : ∀ (s : Nat) k, s < 4 → LX8_namedShape_14 (k + 1) σ u (zI (p0P T n)) (zI (q0P T n)) (zI s) = if nmB T (p0P T n) (q0P T n) s = true then some (.inl (zI s)) else LX8_namedShape_14 k σ u (zI (p0P T n)) (zI (q0P T n)) (zI ((s + 1 : Nat) : Int)) := by
    intro s k hs
    have sn : f_X10_shapeName σ (zI s) = some s := by
      match s, hs with
      | 0, _ => rfl
      | 1, _ => rfl
      | 2, _ => rfl
      | 3, _ => rfl
    rw [LX8_namedShape_14, if_neg (fun x => by have := (zN_le (a := 4) (by omega) (by omega)).mp x; omega), sn, bnd, nm s hs, bnd]
    cases nmB T (p0P T n) (q0P T n) s with
    | true => rfl
    | false => rw [if_pos (show (if false = true then (1 : Int32) else 0) = 0 from rfl), zN_add1]; rfl
  rw [f_X8_namedShape, a0, bnd, a1, bnd, show FU = (FU - 5) + 1 + 1 + 1 + 1 + 1 from rfl, show (0 : Int32) = zI ((0 : Nat) : Int) from rfl, st 0 _ (by omega)]
  rw [Shp, shP]
  cases b0 : nmB T (p0P T n) (q0P T n) 0 with
  | true => rfl
  | false =>
    rw [if_neg (by decide), if_neg (by decide), st 1 _ (by omega)]
    cases b1 : nmB T (p0P T n) (q0P T n) 1 with
    | true => rfl
    | false =>
      rw [if_neg (by decide), if_neg (by decide), st 2 _ (by omega)]
      cases b2 : nmB T (p0P T n) (q0P T n) 2 with
      | true => rfl
      | false =>
        rw [if_neg (by decide), if_neg (by decide), st 3 _ (by omega)]
        cases b3 : nmB T (p0P T n) (q0P T n) 3 with
        | true => rfl
        | false =>
          rw [if_neg (by decide), if_neg (by decide), LX8_namedShape_14, if_pos (by decide), sb_inr1]; rfl
theorem c_shapeFault {σ : St} {u : Nat} {T : Nat → Int32} {n : Nat} (h : CT σ u T n) : f_X8_shapeFault σ u = some (zI (SFl T n)) := by
  have hn := h.1
  have s0 := sc_spec bls T n n 0 (by omega) (by omega)
  have s1 := sc_spec isl T n n (p0P T n) (by omega) s0.2.1
  have s2 := sc_spec bls T n n (q0P T n) (by omega) s1.2.1
  have a0 : f_X8_behindBlanks σ u 0 = some (zI (p0P T n)) := c_bl (p := 0) h (by omega)
  have a1 : f_X8_behindLetters σ u (zI (p0P T n)) = some (zI (q0P T n)) := c_le h s0.2.1
  have hb : Shp T n = -1 ∨ (0 ≤ Shp T n ∧ Shp T n ≤ 3) := by
    unfold Shp shP
    repeat' split
    all_goals omega
  rw [f_X8_shapeFault, c_named h, bnd, SFl]
  by_cases x : Shp T n = -1
  · have y : zI (Shp T n) = -1 := by rw [x]; rfl
    rw [if_neg (by simp [y]), if_pos x, a0, bnd]
  · have y : ¬ zI (Shp T n) = -1 := fun y => by
      have : zI (Shp T n) = zI (-1) := y
      rw [zI_eq (by omega) (by omega) (by omega) (by omega)] at this
      exact x this
    rw [if_pos y, if_neg x, a0, bnd, a1, bnd, c_bl (p := q0P T n) h s1.2.1, bnd, h.2.2.2.2.2.1]
    by_cases z : sc bls T n (q0P T n) < n
    · rw [if_neg (fun w => by have := (zN_le (by omega) (by omega)).mp w; omega), if_pos z]
    · rw [if_pos ((zN_le (by omega) (by omega)).mpr (by omega)), if_neg z]; rfl
/-- where word j begins, the words' lengths being E -/
def stW (E : Nat → Nat) : Nat → Nat
  | 0 => 0
  | j + 1 => stW E j + E j + 1
theorem stW_c {E F : Nat → Nat} : ∀ j, (∀ k, k < j → E k = F k) → stW E j = stW F j
  | 0, _ => rfl
  | j + 1, h => by rw [stW, stW, stW_c j (fun k hk => h k (by omega)), h j (by omega)]
theorem stW_m (E : Nat → Nat) {i j : Nat} (h : i < j) : stW E i + E i + 1 ≤ stW E j := by
  induction h with
  | refl => rw [stW]; omega
  | step h ih => rw [stW]; omega
/-- words of length E, cnt of them, in the first len bytes of B, with blanks between -/
def WL (len cnt lt : Nat) (B : Nat → Int32) (E : Nat → Nat) : Prop :=
  (cnt = 0 → len = 0 ∧ lt = 0) ∧ (0 < cnt → len + 1 = stW E cnt ∧ lt + cnt = len + 1) ∧ (∀ j, j < cnt → 1 ≤ E j) ∧ (∀ j, cnt ≤ j → E j = 0) ∧ (∀ j k, j < cnt → k < E j → isl (B (stW E j + k)) = true) ∧ (∀ j, j + 1 < cnt → B (stW E j + E j) = 32)
theorem WL_P (Z T : Nat → Int32) : ∀ i, WL (lenP T i) (cntP T i) (ltP T i) (byP Z T i) (lnP T i)
  | 0 => ⟨fun _ => ⟨rfl, rfl⟩, fun h => by simp [cntP] at h, fun j h => by simp [cntP] at h, fun j h => rfl, fun j k h => by simp [cntP] at h, fun j h => by simp [cntP] at h⟩
  | i + 1 => by
    obtain ⟨a1, a2, a3, a4, a5, a6⟩ := WL_P Z T i
    cases hl : isl (T i) with
    | false =>
      have hwf := ws_il hl
      have e1 : lenP T (i + 1) = lenP T i := by rw [lenP, if_neg (by simp [hl])]
      have e2 : cntP T (i + 1) = cntP T i := by rw [cntP, if_neg (by simp [hwf])]
      have e3 : ltP T (i + 1) = ltP T i := by rw [ltP, if_neg (by simp [hl])]
      have e4 : byP Z T (i + 1) = byP Z T i := by rw [byP, if_neg (by simp [hl])]
      have e5 : lnP T (i + 1) = lnP T i := by rw [lnP, if_neg (by simp [hl])]
      rw [e1, e2, e3, e4, e5]; exact ⟨a1, a2, a3, a4, a5, a6⟩
    | true =>
      have e1 : lenP T (i + 1) = lenP T i + gapP T i + 1 := by rw [lenP, if_pos hl]
      have e3 : ltP T (i + 1) = ltP T i + 1 := by rw [ltP, if_pos hl]
      have e4 : byP Z T (i + 1) = upL (gpB T i (byP Z T i)) (lenP T i + gapP T i) (T i) := by rw [byP, if_pos hl]
      have e5 : lnP T (i + 1) = fun k => if k + 1 = cntP T (i + 1) then lnP T i k + 1 else lnP T i k := by rw [lnP, if_pos hl]
      have hcp := cnt_pos i hl
      generalize hL : lenP T i = len at *
      generalize hC : cntP T i = cnt at *
      generalize hE : lnP T i = E at *
      generalize hB : byP Z T i = B at *
      generalize hlt : ltP T i = lt at *
      cases hw : wsP T i with
      | true =>
        have e2 : cntP T (i + 1) = cnt + 1 := by rw [cntP, if_pos hw, hC]
        have e5' : lnP T (i + 1) = fun k => if k = cnt then 1 else E k := by
          rw [e5, e2]; funext k
          by_cases q : k = cnt
          · rw [if_pos (by omega), if_pos q, q, a4 cnt (by omega)]
          · rw [if_neg (by omega), if_neg q]
        have sc : ∀ j, j ≤ cnt → stW (fun k => if k = cnt then 1 else E k) j = stW E j := fun j hj => stW_c j (fun k hk => by show (if k = cnt then 1 else E k) = E k; rw [if_neg (by omega)])
        have hlen : len + gapP T i = stW E cnt := by
          by_cases z : 0 < cnt
          · rw [gapP, hC, if_pos ⟨hw, z⟩, (a2 z).1]
          · have z0 : cnt = 0 := by omega
            rw [gapP, hC, if_neg (fun x => z x.2), (a1 z0).1, z0]; rfl
        have hBx : ∀ x, x < len → upL (gpB T i B) (len + gapP T i) (T i) x = B x := by
          intro x hx
          rw [upL, if_neg (by omega), gpB]
          split
          · rw [upL, if_neg (by rw [hL]; omega)]
          · rfl
        have hin : ∀ j, j < cnt → stW E j + E j ≤ len := by
          intro j hj
          have := stW_m E hj
          have := (a2 (by omega)).1
          omega
        rw [e1, e2, e3, e4, e5']
        refine ⟨fun h => by omega, fun _ => ⟨?_, ?_⟩, fun j hj => ?_, fun j hj => ?_, fun j k hj hk => ?_, fun j hj => ?_⟩
        · rw [stW, sc cnt (by omega), if_pos rfl, hlen]
        · by_cases z : 0 < cnt
          · have := (a2 z).2
            rw [gapP, hC, if_pos ⟨hw, z⟩]; omega
          · have z0 : cnt = 0 := by omega
            rw [gapP, hC, if_neg (fun x => z x.2)]
            have := a1 z0; omega
        · show 1 ≤ if j = cnt then 1 else E j
          split
          · omega
          · exact a3 j (by omega)
        · show (if j = cnt then 1 else E j) = 0
          rw [if_neg (by omega)]; exact a4 j (by omega)
        · rw [sc j (by omega)]
          by_cases q : j = cnt
          · subst q
            have : k = 0 := by simp at hk; exact hk
            subst this
            rw [Nat.add_zero, ← hlen, upL, if_pos rfl]; exact hl
          · have hk' : k < E j := by
              have hk2 : k < (if j = cnt then 1 else E j) := hk
              rw [if_neg q] at hk2; exact hk2
            have := hin j (by omega)
            rw [hBx _ (by omega)]
            exact a5 j k (by omega) hk'
        · rw [sc j (by omega)]
          show upL (gpB T i B) (len + gapP T i) (T i) (stW E j + if j = cnt then 1 else E j) = 32
          rw [if_neg (by omega)]
          by_cases q : j + 1 < cnt
          · have := stW_m E q
            have := hin (j + 1) q
            rw [hBx _ (by rw [stW] at this; omega)]
            exact a6 j q
          · have qe : j + 1 = cnt := by omega
            have l1 := (a2 (by omega)).1
            rw [← qe, stW] at l1
            have hg : gapP T i = 1 := by rw [gapP, hC, if_pos ⟨hw, by omega⟩]
            rw [show stW E j + E j = len by omega, upL, if_neg (by omega), gpB, hC, if_pos ⟨hw, by omega⟩, hL, upL, if_pos rfl]
      | false =>
        have e2 : cntP T (i + 1) = cnt := by rw [cntP, if_neg (by simp [hw]), hC]
        have hg : gapP T i = 0 := by rw [gapP, if_neg (by simp [hw])]
        have hc : 0 < cnt := by rw [← e2]; exact hcp
        have e5' : lnP T (i + 1) = fun k => if k + 1 = cnt then E k + 1 else E k := by rw [e5, e2]
        have eB : upL (gpB T i B) (len + gapP T i) (T i) = upL B len (T i) := by rw [gpB, if_neg (by simp [hw]), hg]; rfl
        have sc : ∀ j, j < cnt → stW (fun k => if k + 1 = cnt then E k + 1 else E k) j = stW E j := fun j hj => stW_c j (fun k hk => by show (if k + 1 = cnt then E k + 1 else E k) = E k; rw [if_neg (by omega)])
        obtain ⟨c, rfl⟩ : ∃ c, cnt = c + 1 := ⟨cnt - 1, by omega⟩
        have l1 := (a2 hc).1
        have l2 := (a2 hc).2
        rw [stW] at l1
        rw [e1, e2, e3, e4, e5', eB, hg]
        refine ⟨fun h => by omega, fun _ => ⟨?_, by omega⟩, fun j hj => ?_, fun j hj => ?_, fun j k hj hk => ?_, fun j hj => ?_⟩
        · rw [stW, sc c (by omega), if_pos rfl]; omega
        · show 1 ≤ if j + 1 = c + 1 then E j + 1 else E j
          split
          · omega
          · exact a3 j (by omega)
        · show (if j + 1 = c + 1 then E j + 1 else E j) = 0
          rw [if_neg (by omega)]; exact a4 j (by omega)
        · rw [sc j (by omega)]
          have hk2 : k < (if j + 1 = c + 1 then E j + 1 else E j) := hk
          by_cases q : j = c
          · subst q
            rw [if_pos rfl] at hk2
            by_cases r : k = E j
            · rw [r, show stW E j + E j = len by omega, upL, if_pos rfl]; exact hl
            · rw [upL, if_neg (by omega)]; exact a5 j k (by omega) (by omega)
          · rw [if_neg (by omega)] at hk2
            have := stW_m E (show j < c by omega)
            rw [upL, if_neg (by omega)]
            exact a5 j k (by omega) hk2
        · rw [sc j (by omega)]
          show upL B len (T i) (stW E j + if j + 1 = c + 1 then E j + 1 else E j) = 32
          have := stW_m E (show j < c by omega)
          rw [if_neg (by omega), upL, if_neg (by omega)]
          exact a6 j (by omega)

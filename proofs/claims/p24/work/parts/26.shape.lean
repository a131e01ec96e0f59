def nmE (T : Nat → Int32) (p : Nat) (g : Nat → Int32) : Nat → Nat → Bool
  | 0, _ => true
  | d + 1, k => if T (p + k) = g k then nmE T p g d (k + 1) else false
def nmG (s k : Nat) : Int32 := (strByt.getD s []).getD k 0
/-- the letters from p to q are the name of shape s -/
def nmB (T : Nat → Int32) (p q s : Nat) : Bool := decide (q - p = strLen.getD s 0) && nmE T p (nmG s) (strLen.getD s 0) 0
def shP (T : Nat → Int32) (p q : Nat) : Int := if nmB T p q 0 = true then 0 else if nmB T p q 1 = true then 1 else if nmB T p q 2 = true then 2 else if nmB T p q 3 = true then 3 else -1
def p0P (T : Nat → Int32) (n : Nat) : Nat := sc bls T n 0
def q0P (T : Nat → Int32) (n : Nat) : Nat := sc isl T n (p0P T n)
/-- the shape that the text names, or -1; and where it stops being a shape's name -/
def Shp (T : Nat → Int32) (n : Nat) : Int := shP T (p0P T n) (q0P T n)
def SFl (T : Nat → Int32) (n : Nat) : Int := if Shp T n = -1 then p0P T n else if sc bls T n (q0P T n) < n then sc bls T n (q0P T n) else -1
theorem c_isBet1 {σ : St} {u : Nat} {T : Nat → Int32} {n p s : Nat} (h : CT σ u T n) (hs : s < 5) (hl : strLen.getD s 0 ≤ 7) (hp : p + strLen.getD s 0 ≤ n) : ∀ d k f, k + d = strLen.getD s 0 → d < f → LX8_isBetween_15 f σ u (zI p) s (zI k) = some (if nmE T p (nmG s) d k = true then .inr () else .inl 0) := by
  intro d
  have hn := h.1
  have hk : kS s = some s := by rw [kS, if_pos hs]
  induction d with
  | zero =>
    intro k f h1 h2
    obtain ⟨f, rfl⟩ : ∃ f', f = f' + 1 := ⟨f - 1, by omega⟩
    rw [LX8_isBetween_15, hk, bnd, nI_z, if_pos ((zN_le (by omega) (by omega)).mpr (by omega))]; rfl
  | succ d ih =>
    intro k f h1 h2
    obtain ⟨f, rfl⟩ : ∃ f', f = f' + 1 := ⟨f - 1, by omega⟩
    have hx : ixS (zI k) s = some k := by rw [ixS, if_pos hs, ix_l _ _ (by omega) (by omega)]
    rw [LX8_isBetween_15, hk, bnd, nI_z, if_neg (fun x => by have := (zN_le (by omega) (by omega)).mp x; omega), zN_add, c_byteAt h (by omega), bnd, hx, bnd, TX_in (by omega)]
    by_cases q : T (p + k) = nmG s k
    · rw [if_pos (show T (p + k) = (strByt.getD s []).getD k 0 from q), zN_add1, ih (k + 1) f (by omega) (by omega)]
      conv => rhs; rw [nmE, if_pos q]
    · rw [if_neg (show ¬ T (p + k) = (strByt.getD s []).getD k 0 from q), nmE, if_neg q]; rfl
theorem c_isBet {σ : St} {u : Nat} {T : Nat → Int32} {n p q s : Nat} (h : CT σ u T n) (hs : s < 5) (hl : strLen.getD s 0 ≤ 7) (hp : p ≤ q) (hq : q ≤ n) : f_X8_isBetween σ u (zI p) (zI q) s = some (if nmB T p q s = true then 1 else 0) := by
  have hn := h.1
  have hk : kS s = some s := by rw [kS, if_pos hs]
  have e : zI (q : Int) - zI p = zI ((q - p : Nat) : Int) := by rw [zI_sub]; congr 1; omega
  rw [f_X8_isBetween, hk, bnd, e, nI_z]
  by_cases x : q - p = strLen.getD s 0
  · have e2 : LX8_isBetween_15 FU σ u (zI p) s 0 = _ := c_isBet1 h hs hl (by omega) (strLen.getD s 0) 0 FU (by omega) (by simp only [FU]; omega)
    have : nmB T p q s = nmE T p (nmG s) (strLen.getD s 0) 0 := by rw [nmB, x]; simp
    rw [if_pos (by rw [x]), e2, this]
    split
    · rfl
    · rfl
  · have xz : ¬ zI ((q - p : Nat) : Int) = zI (strLen.getD s 0 : Nat) := fun y => x ((zN_eq (by omega) (by omega)).mp y)
    have : nmB T p q s = false := by rw [nmB]; simp only [x, decide_false, Bool.false_and]
    rw [if_neg xz, this]; rfl
theorem c_named {σ : St} {u : Nat} {T : Nat → Int32} {n : Nat} (h : CT σ u T n) : f_X8_namedShape σ u = some (zI (Shp T n)) := by
  have hn := h.1
  have s0 := sc_spec bls T n n 0 (by omega) (by omega)
  have s1 := sc_spec isl T n n (p0P T n) (by omega) s0.2.1
  have a0 : f_X8_behindBlanks σ u 0 = some (zI (p0P T n)) := c_bl (p := 0) h (by omega)
  have a1 : f_X8_behindLetters σ u (zI (p0P T n)) = some (zI (q0P T n)) := c_le h s0.2.1
  have nm : ∀ s, s < 4 → f_X8_isBetween σ u (zI (p0P T n)) (zI (q0P T n)) s = some (if nmB T (p0P T n) (q0P T n) s = true then 1 else 0) := by
    intro s hs
    refine c_isBet h (by omega) ?_ s1.1 s1.2.1
    match s, hs with
    | 0, _ => decide
    | 1, _ => decide
    | 2, _ => decide
    | 3, _ => decide
  have st : ∀ (s : Nat) k, s < 4 → LX8_namedShape_14 (k + 1) σ u (zI (p0P T n)) (zI (q0P T n)) (zI s) = if nmB T (p0P T n) (q0P T n) s = true then some (.inl (zI s)) else LX8_namedShape_14 k σ u (zI (p0P T n)) (zI (q0P T n)) (zI ((s + 1 : Nat) : Int)) := by
    intro s k hs
    have sn : f_X10_shapeName σ (zI s) = some s := by
      match s, hs with
      | 0, _ => rfl
      | 1, _ => rfl
      | 2, _ => rfl
      | 3, _ => rfl
    rw [LX8_namedShape_14, if_neg (fun x => by have := (zN_le (a := 4) (by omega) (by omega)).mp x; omega), sn, bnd, nm s hs, bnd]
    cases nmB T (p0P T n) (q0P T n) s with
    | true => rfl
    | false => rw [if_pos (show (if false = true then (1 : Int32) else 0) = 0 from rfl), zN_add1]; rfl
  rw [f_X8_namedShape, a0, bnd, a1, bnd, show FU = (FU - 5) + 1 + 1 + 1 + 1 + 1 from rfl, show (0 : Int32) = zI ((0 : Nat) : Int) from rfl, st 0 _ (by omega)]
  rw [Shp, shP]
  cases b0 : nmB T (p0P T n) (q0P T n) 0 with
  | true => rfl
  | false =>
    rw [if_neg (by decide), if_neg (by decide), st 1 _ (by omega)]
    cases b1 : nmB T (p0P T n) (q0P T n) 1 with
    | true => rfl
    | false =>
      rw [if_neg (by decide), if_neg (by decide), st 2 _ (by omega)]
      cases b2 : nmB T (p0P T n) (q0P T n) 2 with
      | true => rfl
      | false =>
        rw [if_neg (by decide), if_neg (by decide), st 3 _ (by omega)]
        cases b3 : nmB T (p0P T n) (q0P T n) 3 with
        | true => rfl
        | false =>
          rw [if_neg (by decide), if_neg (by decide), LX8_namedShape_14, if_pos (by decide), sb_inr1]; rfl
theorem c_shapeFault {σ : St} {u : Nat} {T : Nat → Int32} {n : Nat} (h : CT σ u T n) : f_X8_shapeFault σ u = some (zI (SFl T n)) := by
  have hn := h.1
  have s0 := sc_spec bls T n n 0 (by omega) (by omega)
  have s1 := sc_spec isl T n n (p0P T n) (by omega) s0.2.1
  have s2 := sc_spec bls T n n (q0P T n) (by omega) s1.2.1
  have a0 : f_X8_behindBlanks σ u 0 = some (zI (p0P T n)) := c_bl (p := 0) h (by omega)
  have a1 : f_X8_behindLetters σ u (zI (p0P T n)) = some (zI (q0P T n)) := c_le h s0.2.1
  have hb : Shp T n = -1 ∨ (0 ≤ Shp T n ∧ Shp T n ≤ 3) := by
    unfold Shp shP
    repeat' split
    all_goals omega
  rw [f_X8_shapeFault, c_named h, bnd, SFl]
  by_cases x : Shp T n = -1
  · have y : zI (Shp T n) = -1 := by rw [x]; rfl
    rw [if_neg (by simp [y]), if_pos x, a0, bnd]
  · have y : ¬ zI (Shp T n) = -1 := fun y => by
      have : zI (Shp T n) = zI (-1) := y
      rw [zI_eq (by omega) (by omega) (by omega) (by omega)] at this
      exact x this
    rw [if_pos y, if_neg x, a0, bnd, a1, bnd, c_bl (p := q0P T n) h s1.2.1, bnd, h.2.2.2.2.2.1]
    by_cases z : sc bls T n (q0P T n) < n
    · rw [if_neg (fun w => by have := (zN_le (by omega) (by omega)).mp w; omega), if_pos z]
    · rw [if_pos ((zN_le (by omega) (by omega)).mpr (by omega)), if_neg z]; rfl
/-- where word j begins, the words' lengths being E -/
def stW (E : Nat → Nat) : Nat → Nat
  | 0 => 0
  | j + 1 => stW E j + E j + 1
theorem stW_c {E F : Nat → Nat} : ∀ j, (∀ k, k < j → E k = F k) → stW E j = stW F j
  | 0, _ => rfl
  | j + 1, h => by rw [stW, stW, stW_c j (fun k hk => h k (by omega)), h j (by omega)]
theorem stW_m (E : Nat → Nat) {i j : Nat} (h : i < j) : stW E i + E i + 1 ≤ stW E j := by
  induction h with
  | refl => rw [stW]; omega
  | step h ih => rw [stW]; omega
/-- words of length E, cnt of them, in the first len bytes of B, with blanks between -/
def WL (len cnt lt : Nat) (B : Nat → Int32) (E : Nat → Nat) : Prop :=
  (cnt = 0 → len = 0 ∧ lt = 0) ∧ (0 < cnt → len + 1 = stW E cnt ∧ lt + cnt = len + 1) ∧ (∀ j, j < cnt → 1 ≤ E j) ∧ (∀ j, cnt ≤ j → E j = 0) ∧ (∀ j k, j < cnt → k < E j → isl (B (stW E j + k)) = true) ∧ (∀ j, j + 1 < cnt → B (stW E j + E j) = 32)
theorem WL_P (Z T : Nat → Int32) : ∀ i, WL (lenP T i) (cntP T i) (ltP T i) (byP Z T i) (lnP T i)
  | 0 => ⟨fun _ => ⟨rfl, rfl⟩, fun h => by simp [cntP] at h, fun j h => by simp [cntP] at h, fun j h => rfl, fun j k h => by simp [cntP] at h, fun j h => by simp [cntP] at h⟩
  | i + 1 => by
    obtain ⟨a1, a2, a3, a4, a5, a6⟩ := WL_P Z T i
    cases hl : isl (T i) with
    | false =>
      have hwf := ws_il hl
      have e1 : lenP T (i + 1) = lenP T i := by rw [lenP, if_neg (by simp [hl])]
      have e2 : cntP T (i + 1) = cntP T i := by rw [cntP, if_neg (by simp [hwf])]
      have e3 : ltP T (i + 1) = ltP T i := by rw [ltP, if_neg (by simp [hl])]
      have e4 : byP Z T (i + 1) = byP Z T i := by rw [byP, if_neg (by simp [hl])]
      have e5 : lnP T (i + 1) = lnP T i := by rw [lnP, if_neg (by simp [hl])]
      rw [e1, e2, e3, e4, e5]; exact ⟨a1, a2, a3, a4, a5, a6⟩
    | true =>
      have e1 : lenP T (i + 1) = lenP T i + gapP T i + 1 := by rw [lenP, if_pos hl]
      have e3 : ltP T (i + 1) = ltP T i + 1 := by rw [ltP, if_pos hl]
      have e4 : byP Z T (i + 1) = upL (gpB T i (byP Z T i)) (lenP T i + gapP T i) (T i) := by rw [byP, if_pos hl]
      have e5 : lnP T (i + 1) = fun k => if k + 1 = cntP T (i + 1) then lnP T i k + 1 else lnP T i k := by rw [lnP, if_pos hl]
      have hcp := cnt_pos i hl
      generalize hL : lenP T i = len at *
      generalize hC : cntP T i = cnt at *
      generalize hE : lnP T i = E at *
      generalize hB : byP Z T i = B at *
      generalize hlt : ltP T i = lt at *
      cases hw : wsP T i with
      | true =>
        have e2 : cntP T (i + 1) = cnt + 1 := by rw [cntP, if_pos hw, hC]
        have e5' : lnP T (i + 1) = fun k => if k = cnt then 1 else E k := by
          rw [e5, e2]; funext k
          by_cases q : k = cnt
          · rw [if_pos (by omega), if_pos q, q, a4 cnt (by omega)]
          · rw [if_neg (by omega), if_neg q]
        have sc : ∀ j, j ≤ cnt → stW (fun k => if k = cnt then 1 else E k) j = stW E j := fun j hj => stW_c j (fun k hk => by show (if k = cnt then 1 else E k) = E k; rw [if_neg (by omega)])
        have hlen : len + gapP T i = stW E cnt := by
          by_cases z : 0 < cnt
          · rw [gapP, hC, if_pos ⟨hw, z⟩, (a2 z).1]
          · have z0 : cnt = 0 := by omega
            rw [gapP, hC, if_neg (fun x => z x.2), (a1 z0).1, z0]; rfl
        have hBx : ∀ x, x < len → upL (gpB T i B) (len + gapP T i) (T i) x = B x := by
          intro x hx
          rw [upL, if_neg (by omega), gpB]
          split
          · rw [upL, if_neg (by rw [hL]; omega)]
          · rfl
        have hin : ∀ j, j < cnt → stW E j + E j ≤ len := by
          intro j hj
          have := stW_m E hj
          have := (a2 (by omega)).1
          omega
        rw [e1, e2, e3, e4, e5']
        refine ⟨fun h => by omega, fun _ => ⟨?_, ?_⟩, fun j hj => ?_, fun j hj => ?_, fun j k hj hk => ?_, fun j hj => ?_⟩
        · rw [stW, sc cnt (by omega), if_pos rfl, hlen]
        · by_cases z : 0 < cnt
          · have := (a2 z).2
            rw [gapP, hC, if_pos ⟨hw, z⟩]; omega
          · have z0 : cnt = 0 := by omega
            rw [gapP, hC, if_neg (fun x => z x.2)]
            have := a1 z0; omega
        · show 1 ≤ if j = cnt then 1 else E j
          split
          · omega
          · exact a3 j (by omega)
        · show (if j = cnt then 1 else E j) = 0
          rw [if_neg (by omega)]; exact a4 j (by omega)
        · rw [sc j (by omega)]
          by_cases q : j = cnt
          · subst q
            have : k = 0 := by simp at hk; exact hk
            subst this
            rw [Nat.add_zero, ← hlen, upL, if_pos rfl]; exact hl
          · have hk' : k < E j := by
              have hk2 : k < (if j = cnt then 1 else E j) := hk
              rw [if_neg q] at hk2; exact hk2
            have := hin j (by omega)
            rw [hBx _ (by omega)]
            exact a5 j k (by omega) hk'
        · rw [sc j (by omega)]
          show upL (gpB T i B) (len + gapP T i) (T i) (stW E j + if j = cnt then 1 else E j) = 32
          rw [if_neg (by omega)]
          by_cases q : j + 1 < cnt
          · have := stW_m E q
            have := hin (j + 1) q
            rw [hBx _ (by rw [stW] at this; omega)]
            exact a6 j q
          · have qe : j + 1 = cnt := by omega
            have l1 := (a2 (by omega)).1
            rw [← qe, stW] at l1
            have hg : gapP T i = 1 := by rw [gapP, hC, if_pos ⟨hw, by omega⟩]
            rw [show stW E j + E j = len by omega, upL, if_neg (by omega), gpB, hC, if_pos ⟨hw, by omega⟩, hL, upL, if_pos rfl]
      | false =>
        have e2 : cntP T (i + 1) = cnt := by rw [cntP, if_neg (by simp [hw]), hC]
        have hg : gapP T i = 0 := by rw [gapP, if_neg (by simp [hw])]
        have hc : 0 < cnt := by rw [← e2]; exact hcp
        have e5' : lnP T (i + 1) = fun k => if k + 1 = cnt then E k + 1 else E k := by rw [e5, e2]
        have eB : upL (gpB T i B) (len + gapP T i) (T i) = upL B len (T i) := by rw [gpB, if_neg (by simp [hw]), hg]; rfl
        have sc : ∀ j, j < cnt → stW (fun k => if k + 1 = cnt then E k + 1 else E k) j = stW E j := fun j hj => stW_c j (fun k hk => by show (if k + 1 = cnt then E k + 1 else E k) = E k; rw [if_neg (by omega)])
        obtain ⟨c, rfl⟩ : ∃ c, cnt = c + 1 := ⟨cnt - 1, by omega⟩
        have l1 := (a2 hc).1
        have l2 := (a2 hc).2
        rw [stW] at l1
        rw [e1, e2, e3, e4, e5', eB, hg]
        refine ⟨fun h => by omega, fun _ => ⟨?_, by omega⟩, fun j hj => ?_, fun j hj => ?_, fun j k hj hk => ?_, fun j hj => ?_⟩
        · rw [stW, sc c (by omega), if_pos rfl]; omega
        · show 1 ≤ if j + 1 = c + 1 then E j + 1 else E j
          split
          · omega
          · exact a3 j (by omega)
        · show (if j + 1 = c + 1 then E j + 1 else E j) = 0
          rw [if_neg (by omega)]; exact a4 j (by omega)
        · rw [sc j (by omega)]
          have hk2 : k < (if j + 1 = c + 1 then E j + 1 else E j) := hk
          by_cases q : j = c
          · subst q
            rw [if_pos rfl] at hk2
            by_cases r : k = E j
            · rw [r, show stW E j + E j = len by omega, upL, if_pos rfl]; exact hl
            · rw [upL, if_neg (by omega)]; exact a5 j k (by omega) (by omega)
          · rw [if_neg (by omega)] at hk2
            have := stW_m E (show j < c by omega)
            rw [upL, if_neg (by omega)]
            exact a5 j k (by omega) hk2
        · rw [sc j (by omega)]
          show upL B len (T i) (stW E j + if j + 1 = c + 1 then E j + 1 else E j) = 32
          have := stW_m E (show j < c by omega)
          rw [if_neg (by omega), upL, if_neg (by omega)]
          exact a6 j (by omega)


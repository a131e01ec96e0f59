-- the law's breaking letter by letter is the class's word by word
theorem setL_setL (rs : RS) (a b : Nat) : setL (setL rs a) b = setL rs b := by
  obtain ⟨n, f⟩ := rs
  have e : (fun i => if i = n - 1 then wLe ((fun i => if i = n - 1 then wLe (f i) a else f i) i) b else (fun i => if i = n - 1 then wLe (f i) a else f i) i) = fun i => if i = n - 1 then wLe (f i) b else f i := by
    funext i
    by_cases q : i = n - 1
    · simp only [if_pos q]; rfl
    · simp only [if_neg q]
  show (n, fun i => if i = n - 1 then wLe ((fun i => if i = n - 1 then wLe (f i) a else f i) i) b else (fun i => if i = n - 1 then wLe (f i) a else f i) i) = (n, fun i => if i = n - 1 then wLe (f i) b else f i)
  rw [e]
theorem setL_self (rs : RS) : setL rs (rLe (lastR rs)) = rs := by
  obtain ⟨n, f⟩ := rs
  have e : (fun i => if i = n - 1 then wLe (f i) (rLe (f (n - 1))) else f i) = f := by
    funext i
    by_cases q : i = n - 1
    · rw [if_pos q, q]; rfl
    · rw [if_neg q]
  show (n, fun i => if i = n - 1 then wLe (f i) (rLe (f (n - 1))) else f i) = (n, f)
  rw [e]
def fillS (W c1 : Nat) : Nat → Nat → RS → RS
  | 0, _, rs => rs
  | l + 1, p, rs => fillS W c1 l (p + 1) (setL (if rCo (lastR rs) + rLe (lastR rs) = W then nxR rs c1 p 1 else rs) (rLe (lastR (if rCo (lastR rs) + rLe (lastR rs) = W then nxR rs c1 p 1 else rs)) + 1))
theorem lst_set (rs : RS) (v : Nat) : rCo (lastR (setL rs v)) = rCo (lastR rs) ∧ rLe (lastR (setL rs v)) = v ∧ rFr (lastR (setL rs v)) = rFr (lastR rs) ∧ rIx (lastR (setL rs v)) = rIx (lastR rs) ∧ rLn (lastR (setL rs v)) = rLn (lastR rs) ∧ (setL rs v).1 = rs.1 ∧ rWi (lastR (setL rs v)) = rWi (lastR rs) := by
  rw [lastR_set]; exact ⟨rfl, rfl, rfl, rfl, rfl, rfl, rfl⟩
theorem lst_nx (rs : RS) (c1 p w : Nat) : rCo (lastR (nxR rs c1 p w)) = c1 ∧ rLe (lastR (nxR rs c1 p w)) = 0 ∧ rFr (lastR (nxR rs c1 p w)) = p ∧ rIx (lastR (nxR rs c1 p w)) = rIx (lastR rs) + 1 ∧ rLn (lastR (nxR rs c1 p w)) = rLn (lastR rs) ∧ (nxR rs c1 p w).1 = rs.1 + 1 ∧ rWi (lastR (nxR rs c1 p w)) = w := by
  rw [nxR, lastR_add]; exact ⟨rfl, rfl, rfl, rfl, rfl, rfl, rfl⟩
theorem fill_same {W c1 : Nat} : ∀ l p rs, rCo (lastR rs) + rLe (lastR rs) + l ≤ W → 0 < l → fillS W c1 l p rs = setL rs (rLe (lastR rs) + l) := by
  intro l
  induction l with
  | zero => intro p rs h1 h2; omega
  | succ l ih =>
    intro p rs h1 h2
    rw [fillS, if_neg (by omega)]
    obtain ⟨s1, s2, s3, s4, s5, s6, s7⟩ := lst_set rs (rLe (lastR rs) + 1)
    by_cases q : l = 0
    · subst q; rfl
    · rw [ih (p + 1) _ (by rw [s1, s2]; omega) (by omega), s2, setL_setL, show rLe (lastR rs) + 1 + l = rLe (lastR rs) + (l + 1) by omega]
theorem fill_add {W c1 : Nat} : ∀ a b p rs, fillS W c1 (a + b) p rs = fillS W c1 b (p + a) (fillS W c1 a p rs) := by
  intro a
  induction a with
  | zero => intro b p rs; rw [Nat.zero_add]; rfl
  | succ a ih =>
    intro b p rs
    rw [show a + 1 + b = (a + b) + 1 by omega, fillS, fillS, ih, show p + 1 + a = p + (a + 1) by omega]
theorem fill_cut {W c1 : Nat} (hc : c1 + 6 ≤ W) : ∀ d l rs, 0 < l → l ≤ 6 * d → rLe (lastR rs) = 0 → rCo (lastR rs) + 6 ≤ W → fillS W c1 l (rFr (lastR rs)) rs = setL (cutS W c1 d l rs).2 (cutS W c1 d l rs).1 := by
  intro d
  induction d with
  | zero => intro l rs h1 h2; omega
  | succ d ih =>
    intro l rs h1 h2 h3 h4
    by_cases q : W - rCo (lastR rs) < l
    · have e : cutS W c1 (d + 1) l rs = cutS W c1 d (l - (W - rCo (lastR rs))) (nxR (setL rs (W - rCo (lastR rs))) c1 (rFr (lastR rs) + (W - rCo (lastR rs))) 1) := by rw [cutS, if_pos q]
      rw [e]
      obtain ⟨s1, s2, s3, s4, s5, s6, s7⟩ := lst_set rs (W - rCo (lastR rs))
      obtain ⟨t1, t2, t3, t4, t5, t6, t7⟩ := lst_nx (setL rs (W - rCo (lastR rs))) c1 (rFr (lastR rs) + (W - rCo (lastR rs))) 1
      rw [← ih (l - (W - rCo (lastR rs))) _ (by omega) (by omega) t2 (by omega), t3]
      have e1 : fillS W c1 l (rFr (lastR rs)) rs = fillS W c1 (l - (W - rCo (lastR rs))) (rFr (lastR rs) + (W - rCo (lastR rs))) (setL rs (W - rCo (lastR rs))) := by
        have e2 : fillS W c1 (W - rCo (lastR rs)) (rFr (lastR rs)) rs = setL rs (W - rCo (lastR rs)) := by
          rw [fill_same _ _ _ (by omega) (by omega), h3, Nat.zero_add]
        rw [← e2, ← fill_add, show W - rCo (lastR rs) + (l - (W - rCo (lastR rs))) = l by omega]
      rw [e1]
      obtain ⟨m, hm⟩ : ∃ m, l - (W - rCo (lastR rs)) = m + 1 := ⟨l - (W - rCo (lastR rs)) - 1, by omega⟩
      rw [hm, fillS, if_pos (by rw [s1, s2]; omega), fillS, if_neg (by rw [t1, t2]; omega)]
    · have e : cutS W c1 (d + 1) l rs = (l, rs) := by rw [cutS, if_neg q]
      rw [e, fill_same _ _ _ (by omega) h1, h3, Nat.zero_add]
def wordF (W c1 n p : Nat) (rs : RS) : RS := fillS W c1 n p (if 0 < rLe (lastR rs) then (if rCo (lastR rs) + rLe (lastR rs) + 1 + n ≤ W then setL rs (rLe (lastR rs) + 1) else nxR rs c1 p 0) else rs)
theorem word_F {k W c1 n fr fp : Nat} {rs : RS} (h : RB k W c1 rs fp fr) (hn : 1 ≤ n) (hn2 : n ≤ 16) : wordF W c1 n fr rs = wordS W c1 n fr rs := by
  obtain ⟨⟨a1, a2, a3, a4, a5, a6⟩, a7, a8⟩ := h
  unfold wordF wordS
  by_cases z : 0 < rLe (lastR rs)
  · rw [if_pos z]
    by_cases q : rCo (lastR rs) + rLe (lastR rs) + 1 + n ≤ W
    · rw [if_pos q, if_pos ⟨z, q⟩]
      obtain ⟨s1, s2, s3, s4, s5, s6, s7⟩ := lst_set rs (rLe (lastR rs) + 1)
      rw [fill_same _ _ _ (by rw [s1, s2]; omega) (by omega), s2, setL_setL]
    · rw [if_neg q, if_neg (fun y => q y.2), if_pos z, putS]
      obtain ⟨t1, t2, t3, t4, t5, t6, t7⟩ := lst_nx rs c1 fr 0
      rw [← fill_cut a3 16 n _ (by omega) (by omega) t2 (by omega), t3]
  · rw [if_neg z, if_neg (fun y => z y.1), if_neg z, putS]
    rcases a7 with a7 | a7
    · rw [← fill_cut a3 16 n _ (by omega) (by omega) a7.1 a2, a7.2.1]
    · omega
theorem fill_mono {W c1 : Nat} : ∀ l p rs, rs.1 ≤ (fillS W c1 l p rs).1 ∧ rIx (lastR rs) ≤ rIx (lastR (fillS W c1 l p rs)) := by
  intro l
  induction l with
  | zero => intro p rs; exact ⟨Nat.le_refl _, Nat.le_refl _⟩
  | succ l ih =>
    intro p rs
    rw [fillS]
    by_cases q : rCo (lastR rs) + rLe (lastR rs) = W
    · rw [if_pos q]
      obtain ⟨t1, t2, t3, t4, t5, t6, t7⟩ := lst_nx rs c1 p 1
      obtain ⟨s1, s2, s3, s4, s5, s6, s7⟩ := lst_set (nxR rs c1 p 1) (rLe (lastR (nxR rs c1 p 1)) + 1)
      have := ih (p + 1) (setL (nxR rs c1 p 1) (rLe (lastR (nxR rs c1 p 1)) + 1))
      omega
    · rw [if_neg q]
      obtain ⟨s1, s2, s3, s4, s5, s6, s7⟩ := lst_set rs (rLe (lastR rs) + 1)
      have := ih (p + 1) (setL rs (rLe (lastR rs) + 1))
      omega
theorem cut_gr {W c1 : Nat} (hc : c1 + 6 ≤ W) : ∀ d l rs, 1 ≤ l → rCo (lastR rs) + 6 ≤ W → (cutS W c1 d l rs).2.1 ≤ rs.1 + (l - 1) / 6 := by
  intro d
  induction d with
  | zero => intro l rs h1 h2; show rs.1 ≤ _; omega
  | succ d ih =>
    intro l rs h1 h2
    rw [cutS]
    split
    · obtain ⟨s1, s2, s3, s4, s5, s6, s7⟩ := lst_set rs (W - rCo (lastR rs))
      obtain ⟨t1, t2, t3, t4, t5, t6, t7⟩ := lst_nx (setL rs (W - rCo (lastR rs))) c1 (rFr (lastR rs) + (W - rCo (lastR rs))) 1
      have := ih (l - (W - rCo (lastR rs))) (nxR (setL rs (W - rCo (lastR rs))) c1 (rFr (lastR rs) + (W - rCo (lastR rs))) 1) (by omega) (by omega)
      omega
    · show rs.1 ≤ _; omega
theorem word_gr {k W c1 n fr fp : Nat} {rs : RS} (h : RB k W c1 rs fp fr) (hn : 1 ≤ n) (hn2 : n ≤ 16) : (wordS W c1 n fr rs).1 ≤ rs.1 + 3 := by
  obtain ⟨⟨a1, a2, a3, a4, a5, a6⟩, a7, a8⟩ := h
  unfold wordS
  split
  · show rs.1 ≤ _; omega
  · unfold putS
    show (cutS W c1 16 n _).2.1 ≤ _
    split
    · obtain ⟨t1, t2, t3, t4, t5, t6, t7⟩ := lst_nx rs c1 fr 0
      have := cut_gr a3 16 n (nxR rs c1 fr 0) hn (by omega)
      omega
    · have := cut_gr a3 16 n rs hn a2
      omega

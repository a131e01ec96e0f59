/-- pages: page, place, whether the page is empty; page and place of each row -/
abbrev QS : Type := Nat × Nat × Bool × (Nat → Nat) × (Nat → Nat)
def qPg (s : QS) : Nat := s.1
def qPl (s : QS) : Nat := s.2.1
def qE (s : QS) : Bool := s.2.2.1
def qF (s : QS) : Nat → Nat := s.2.2.2.1
def qL (s : QS) : Nat → Nat := s.2.2.2.2
def tnQ (s : QS) : QS := (qPg s + 1, 0, true, qF s, qL s)
def rowQ0 (H : Nat) (s : QS) : QS := if qPl s = H then tnQ s else s
def rowQ (H r : Nat) (s : QS) : QS := (qPg (rowQ0 H s), qPl (rowQ0 H s) + 1, false, fun i => if i = r then qPg (rowQ0 H s) else qF s i, fun i => if i = r then qPl (rowQ0 H s) else qL s i)
def rowsQ (H : Nat) : Nat → Nat → QS → QS
  | 0, _, s => s
  | d + 1, r, s => rowsQ H d (r + 1) (rowQ H r s)
/-- before a line's rows: n its rows, all those of its stanza -/
def headQ (H K n all : Nat) (bg : Bool) (s : QS) : QS :=
  if bg = true then
    (if qE s = true then s else if H < qPl s + 1 + n ∨ (all ≤ K ∧ all ≤ H ∧ H < qPl s + 1 + all) then tnQ s else (qPg s, qPl s + 1, qE s, qF s, qL s))
  else (if qE s = false ∧ H < qPl s + n then tnQ s else s)
def lineQ (P : PoT) (W H k : Nat) (s : QS) : QS := rowsQ H (lrS P W k) (layA P W k).1 (headQ H (P.2.2 4) (lrS P W k) (srS P W P.2.1 (szO P k)) (bgS P k) s)
def pagQ (P : PoT) (W H : Nat) : Nat → QS
  | 0 => (0, 0, true, fun _ => 0, fun _ => 0)
  | k + 1 => lineQ P W H k (pagQ P W H k)
/-- the reference's pages are s, r rows being placed -/
def QM (M : MS) (s : QS) (r : Nat) : Prop := mF M 22 = zI (qPg s) ∧ mF M 23 = zI (qPl s) ∧ mF M 24 = (if qE s = true then 1 else 0) ∧ (∀ i, i < r → mA M 10 i = zI (qF s i) ∧ mA M 11 i = zI (qL s i))
/-- nothing but pages has changed -/
def FQ (M N : MS) : Prop := (∀ r j, r ≠ 10 → r ≠ 11 → mA N r j = mA M r j) ∧ (∀ k, k < 22 ∨ 24 < k → mF N k = mF M k) ∧ mJ N = mJ M
theorem FQ_refl (M : MS) : FQ M M := ⟨fun _ _ _ _ => rfl, fun _ _ => rfl, rfl⟩
theorem FQ_trans {M N O : MS} (h : FQ M N) (g : FQ N O) : FQ M O := ⟨fun r j hr h2 => (g.1 r j hr h2).trans (h.1 r j hr h2), fun k hk => (g.2.1 k hk).trans (h.2.1 k hk), g.2.2.trans h.2.2⟩
theorem FQ_eF {M : MS} (k : Nat) (v : Int32) (h : 22 ≤ k ∧ k ≤ 24) : FQ M (eF M k v) := ⟨fun _ _ _ _ => rfl, fun k' hk => by rw [mF_eF, if_neg (by omega)], rfl⟩
theorem FQ_eA {M : MS} (r j : Nat) (v : Int32) (h : r = 10 ∨ r = 11) : FQ M (eA M r j v) := ⟨fun r' j' h1 h2 => by rw [mA_eA, if_neg (by omega)], fun _ _ => rfl, rfl⟩
theorem g_turns {M : MS} {s : QS} {r : Nat} (h : QM M s r) : ∃ N, g_X11_turns M = some N ∧ QM N (tnQ s) r ∧ FQ M N := by
  obtain ⟨h1, h2, h3, h4⟩ := h
  refine ⟨_, rfl, ⟨?_, ?_, ?_, h4⟩, FQ_trans (FQ_trans (FQ_eF 22 _ (by omega)) (FQ_eF 23 _ (by omega))) (FQ_eF 24 _ (by omega))⟩
  · rw [mF_eF, if_neg (by decide), mF_eF, if_neg (by decide), mF_eF, if_pos rfl, h1, zN_add1]; rfl
  · rw [mF_eF, if_neg (by decide), mF_eF, if_pos rfl]; rfl
  · rw [mF_eF, if_pos rfl]; rfl
theorem g_rows {k n H : Nat} (hk : k < 24) (hH4 : 4 ≤ H) (hH : H ≤ 30) (fst : Nat) (hf : fst + n ≤ 960) : ∀ (d r : Nat) (s : QS) (M : MS) (f : Nat), r + d = fst + n → fst ≤ r → mA M 13 k = zI fst → QM M s r → qPl s ≤ H → d < f → ∃ N, LGX11_paginates_154 f (zI k) (zI n) (zI H) (zI r) M = some N ∧ QM N (rowsQ H d r s) (fst + n) ∧ FQ M N := by
  intro d
  have ik : ix (zI (k : Int)) 24 = some k := ix_l _ _ hk (by omega)
  induction d with
  | zero =>
    intro r s M f h1 h2 h3 h4 h5 h6
    obtain ⟨f, rfl⟩ : ∃ f', f = f' + 1 := ⟨f - 1, by omega⟩
    have e : r = fst + n := by omega
    subst e
    refine ⟨M, ?_, h4, FQ_refl M⟩
    rw [LGX11_paginates_154, ik, bnd, h3, zN_add, if_pos ((zN_le (by omega) (by omega)).mpr (by omega))]
  | succ d ih =>
    intro r s M f h1 h2 h3 h4 h5 h6
    obtain ⟨f, rfl⟩ : ∃ f', f = f' + 1 := ⟨f - 1, by omega⟩
    obtain ⟨M1, m1, m2, m3⟩ : ∃ M1, (if ¬ (mF M 23) = zI H then some M else (g_X11_turns M).bind fun q41 => some q41) = some M1 ∧ QM M1 (rowQ0 H s) r ∧ FQ M M1 := by
      by_cases q : qPl s = H
      · obtain ⟨N, n1, n2, n3⟩ := g_turns h4
        refine ⟨N, ?_, by rw [rowQ0, if_pos q]; exact n2, n3⟩
        rw [if_neg (fun x => x (by rw [h4.2.1, q])), n1, bnd]
      · refine ⟨M, ?_, by rw [rowQ0, if_neg q]; exact h4, FQ_refl M⟩
        rw [if_pos (fun x => by rw [h4.2.1] at x; exact q ((zN_eq (by omega) (by omega)).mp x))]
    obtain ⟨c1, c2, c3, c4⟩ := m2
    have ir : ix (zI (r : Int)) 960 = some r := ix_l _ _ (by omega) (by omega)
    have hpl : qPl (rowQ0 H s) ≤ 30 := by
      unfold rowQ0; split
      · exact Nat.zero_le _
      · omega
    have hpl2 : qPl (rowQ0 H s) + 1 ≤ H := by
      unfold rowQ0; split
      · show 0 + 1 ≤ H; omega
      · omega
    have fq : FQ M (eF (eF (eA (eA M1 10 r (zI (qPg (rowQ0 H s)))) 11 r (zI (qPl (rowQ0 H s)))) 23 (zI ((qPl (rowQ0 H s) + 1 : Nat) : Int))) 24 0) := FQ_trans m3 (FQ_trans (FQ_trans (FQ_trans (FQ_eA 10 _ _ (by omega)) (FQ_eA 11 _ _ (by omega))) (FQ_eF 23 _ (by omega))) (FQ_eF 24 _ (by omega)))
    have qm : QM (eF (eF (eA (eA M1 10 r (zI (qPg (rowQ0 H s)))) 11 r (zI (qPl (rowQ0 H s)))) 23 (zI ((qPl (rowQ0 H s) + 1 : Nat) : Int))) 24 0) (rowQ H r s) (r + 1) := by
      refine ⟨c1, rfl, rfl, fun i hi => ?_⟩
      have e0 : qF (rowQ0 H s) = qF s ∧ qL (rowQ0 H s) = qL s := by unfold rowQ0; split <;> exact ⟨rfl, rfl⟩
      rw [e0.1, e0.2] at c4
      simp only [mA_eF, mA_eA, rowQ, qF, qL]
      by_cases q : i = r
      · subst q; simp
      · simp only [q, and_false, if_false]; exact c4 i (by omega)
    have step : LGX11_paginates_154 (f + 1) (zI k) (zI n) (zI H) (zI r) M = LGX11_paginates_154 f (zI k) (zI n) (zI H) (zI ((r + 1 : Nat) : Int)) (eF (eF (eA (eA M1 10 r (zI (qPg (rowQ0 H s)))) 11 r (zI (qPl (rowQ0 H s)))) 23 (zI ((qPl (rowQ0 H s) + 1 : Nat) : Int))) 24 0) := by
      rw [LGX11_paginates_154, ik, bnd, h3, zN_add, if_neg (fun x => by have := (zN_le (by omega) (by omega)).mp x; omega), m1, bnd, ir, bnd, bnd, zN_add1]
      simp only [mF_eA, c1, c2]
      rw [zN_add1]
    obtain ⟨N, n1, n2, n3⟩ := ih (r + 1) (rowQ H r s) _ f (by omega) (by omega) ((fq.1 13 k (by decide) (by decide)).trans h3) qm hpl2 (by omega)
    exact ⟨N, step.trans n1, n2, FQ_trans fq n3⟩
theorem rowsQ_pl (H : Nat) (hH : 4 ≤ H) : ∀ d r s, qPl s ≤ H → qPl (rowsQ H d r s) ≤ H := by
  intro d
  induction d with
  | zero => intro r s h; exact h
  | succ d ih =>
    intro r s h
    refine ih (r + 1) _ ?_
    show qPl (rowQ0 H s) + 1 ≤ H
    unfold rowQ0; split
    · show 0 + 1 ≤ H; omega
    · omega
theorem b2i (b : Bool) : ((if b = true then (1 : Int32) else 0) = 0) ↔ b = false := by cases b <;> simp
/-- before a line's rows -/
theorem g_head {M : MS} {s : QS} {r H K n all : Nat} (bg : Bool) (h : QM M s r) (hp : qPl s ≤ H) (hH : H ≤ 30) (hK : K ≤ 1000) (hn : n ≤ 1000) (hall : all ≤ 1000) (hn1 : 1 ≤ n) :
    ∃ N, (if (if bg = true then (1 : Int32) else 0) = 0 then
    (if ¬ (mF M 24) = 0 then some M else if zI n ≤ (zI H - (mF M 23)) then some M else (g_X11_turns M).bind fun q11 => some q11)
  else
    (if zI K < zI all then some (0 : Int32) else if zI H < zI all then some 0 else if zI all ≤ ((zI H - (mF M 23)) - 1) then some 0 else some 1).bind fun (x19 : Int32) =>
    (if ¬ (mF M 24) = 0 then
      if ¬ (mF M 24) = 0 then some M else some (eF M 23 ((mF M 23) + 1))
    else
      if ((zI H - (mF M 23)) - 1) < zI n then (g_X11_turns M).bind fun q27 => some q27
      else
        if x19 = 0 then
          if ¬ (mF M 24) = 0 then some M else some (eF M 23 ((mF M 23) + 1))
        else (g_X11_turns M).bind fun q31 => some q31).bind fun (x23 : MS) =>
    some x23) = some N ∧ QM N (headQ H K n all bg s) r ∧ FQ M N ∧ qPl (headQ H K n all bg s) ≤ H := by
  obtain ⟨N, n1, n2, n3⟩ := g_turns h
  obtain ⟨h1, h2, h3, h4⟩ := id h
  have e1 : zI (H : Int) - zI (qPl s) = zI ((H - qPl s : Nat) : Int) := zN_sub hp
  have e2 : ∀ x : Nat, x ≤ 1000 → ((zI (H : Int) - zI (qPl s) - 1 < zI x) ↔ H < qPl s + 1 + x) := by
    intro x hx
    rw [zI_sub, show (1 : Int32) = zI (1 : Int) from rfl, zI_sub, zI_lt (by omega) (by omega) (by omega) (by omega)]; omega
  have e3 : ∀ x : Nat, x ≤ 1000 → ((zI x ≤ zI (H : Int) - zI (qPl s) - 1) ↔ ¬ H < qPl s + 1 + x) := by
    intro x hx
    rw [zI_sub, show (1 : Int32) = zI (1 : Int) from rfl, zI_sub, zI_le (by omega) (by omega) (by omega) (by omega)]; omega
  have tp : qPl (tnQ s) ≤ H := Nat.zero_le _
  cases bg with
  | false =>
    have hq : headQ H K n all false s = (if qE s = false ∧ H < qPl s + n then tnQ s else s) := rfl
    rw [if_pos (show (if false = true then (1 : Int32) else 0) = 0 from rfl), hq]
    cases he : qE s with
    | true =>
      have h24 : ¬ mF M 24 = 0 := by rw [h3, he]; decide
      rw [if_pos h24, if_neg (fun x => by cases x.1)]
      exact ⟨M, rfl, h, FQ_refl M, hp⟩
    | false =>
      have h24 : mF M 24 = 0 := by rw [h3, he]; rfl
      rw [if_neg (fun x => x h24), h2, e1]
      by_cases q : H < qPl s + n
      · rw [if_neg (fun x => by have := (zN_le (by omega) (by omega)).mp x; omega), if_pos ⟨rfl, q⟩, n1, bnd]
        exact ⟨N, rfl, n2, n3, tp⟩
      · rw [if_pos ((zN_le (by omega) (by omega)).mpr (by omega)), if_neg (fun x => q x.2)]
        exact ⟨M, rfl, h, FQ_refl M, hp⟩
  | true =>
    have hq : headQ H K n all true s = (if qE s = true then s else if H < qPl s + 1 + n ∨ (all ≤ K ∧ all ≤ H ∧ H < qPl s + 1 + all) then tnQ s else (qPg s, qPl s + 1, qE s, qF s, qL s)) := rfl
    have ek : (if zI (K : Int) < zI all then some (0 : Int32) else if zI (H : Int) < zI all then some 0 else if zI (all : Int) ≤ ((zI H - (mF M 23)) - 1) then some 0 else some 1) = some (if all ≤ K ∧ all ≤ H ∧ H < qPl s + 1 + all then 1 else 0) := by
      rw [h2]
      by_cases a : K < all
      · rw [if_pos ((zN_lt (by omega) (by omega)).mpr a), if_neg (by omega)]
      · rw [if_neg (fun x => a ((zN_lt (by omega) (by omega)).mp x))]
        by_cases b : H < all
        · rw [if_pos ((zN_lt (by omega) (by omega)).mpr b), if_neg (by omega)]
        · rw [if_neg (fun x => b ((zN_lt (by omega) (by omega)).mp x))]
          by_cases c : H < qPl s + 1 + all
          · rw [if_neg (fun x => (e3 all hall).mp x c), if_pos (by omega)]
          · rw [if_pos ((e3 all hall).mpr c), if_neg (by omega)]
    rw [if_neg (show ¬ (if true = true then (1 : Int32) else 0) = 0 by decide), ek, bnd, hq]
    cases he : qE s with
    | true =>
      have h24 : ¬ mF M 24 = 0 := by rw [h3, he]; decide
      rw [if_pos h24, if_pos h24, bnd, if_pos rfl]
      exact ⟨M, rfl, h, FQ_refl M, hp⟩
    | false =>
      have h24 : mF M 24 = 0 := by rw [h3, he]; rfl
      have nf : ¬ false = true := by decide
      rw [if_neg (fun x => x h24), if_neg nf, h2]
      by_cases a : H < qPl s + 1 + n
      · rw [if_pos ((e2 n hn).mpr a), n1, if_pos (Or.inl a)]
        exact ⟨N, rfl, n2, n3, tp⟩
      · rw [if_neg (fun x => a ((e2 n hn).mp x))]
        by_cases c : all ≤ K ∧ all ≤ H ∧ H < qPl s + 1 + all
        · rw [if_pos c, if_neg (show ¬ (1 : Int32) = 0 by decide), n1, if_pos (Or.inr c)]
          exact ⟨N, rfl, n2, n3, tp⟩
        · rw [if_neg c, if_pos rfl, if_neg (fun x => x h24), if_neg (fun x => x.elim a c)]
          refine ⟨_, rfl, ⟨?_, ?_, ?_, h4⟩, FQ_eF 23 _ (by omega), by show qPl s + 1 ≤ H; omega⟩
          · rw [mF_eF, if_neg (by decide)]; exact h1
          · rw [mF_eF, if_pos rfl, zN_add1]; rfl
          · rw [mF_eF, if_neg (by decide), h24]; rfl

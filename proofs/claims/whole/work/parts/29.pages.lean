/-- pages: page, place, whether the page is empty; page and place of each row -/
abbrev QS : Type := Nat × Nat × Bool × (Nat → Nat) × (Nat → Nat)
def qPg (s : QS) : Nat := s.1
def qPl (s : QS) : Nat := s.2.1
def qE (s : QS) : Bool := s.2.2.1
def qF (s : QS) : Nat → Nat := s.2.2.2.1
def qL (s : QS) : Nat → Nat := s.2.2.2.2
def tnQ (s : QS) : QS := (qPg s + 1, 0, true, qF s, qL s)
def rowQ0 (H : Nat) (s : QS) : QS := if qPl s = H then tnQ s else s
def rowQ (H r : Nat) (s : QS) : QS := (qPg (rowQ0 H s), qPl (rowQ0 H s) + 1, false, fun i => if i = r then qPg (rowQ0 H s) else qF s i, fun i => if i = r then qPl (rowQ0 H s) else qL s i)
def rowsQ (H : Nat) : Nat → Nat → QS → QS
  | 0, _, s => s
  | d + 1, r, s => rowsQ H d (r + 1) (rowQ H r s)
/-- before a line's rows: n its rows, all those of its stanza -/
def headQ (H K n all : Nat) (bg : Bool) (s : QS) : QS :=
  if bg = true then
    (if qE s = true then s else if H < qPl s + 1 + n ∨ (all ≤ K ∧ all ≤ H ∧ H < qPl s + 1 + all) then tnQ s else (qPg s, qPl s + 1, qE s, qF s, qL s))
  else (if qE s = false ∧ H < qPl s + n then tnQ s else s)
def lineQ (P : PoT) (W H k : Nat) (s : QS) : QS := rowsQ H (lrS P W k) (layA P W k).1 (headQ H (P.2.2 4) (lrS P W k) (srS P W P.2.1 (szO P k)) (bgS P k) s)
def pagQ (P : PoT) (W H : Nat) : Nat → QS
  | 0 => (0, 0, true, fun _ => 0, fun _ => 0)
  | k + 1 => lineQ P W H k (pagQ P W H k)
/-- the reference's pages are s, r rows being placed -/
def QM (M : MS) (s : QS) (r : Nat) : Prop := mF M 22 = zI (qPg s) ∧ mF M 23 = zI (qPl s) ∧ mF M 24 = (if qE s = true then 1 else 0) ∧ (∀ i, i < r → mA M 10 i = zI (qF s i) ∧ mA M 11 i = zI (qL s i))
/-- nothing but pages has changed -/
def FQ (M N : MS) : Prop := (∀ r j, r ≠ 10 → r ≠ 11 → mA N r j = mA M r j) ∧ (∀ k, k < 22 ∨ 24 < k → mF N k = mF M k) ∧ mJ N = mJ M
theorem FQ_refl (M : MS) : FQ M M := ⟨fun _ _ _ _ => rfl, fun _ _ => rfl, rfl⟩
theorem FQ_trans {M N O : MS} (h : FQ M N) (g : FQ N O) : FQ M O := ⟨fun r j hr h2 => (g.1 r j hr h2).trans (h.1 r j hr h2), fun k hk => (g.2.1 k hk).trans (h.2.1 k hk), g.2.2.trans h.2.2⟩
theorem FQ_eF {M : MS} (k : Nat) (v : Int32) (h : 22 ≤ k ∧ k ≤ 24) : FQ M (eF M k v) := ⟨fun _ _ _ _ => rfl, fun k' hk => by rw [mF_eF, if_neg (by omega)], rfl⟩
theorem FQ_eA {M : MS} (r j : Nat) (v : Int32) (h : r = 10 ∨ r = 11) : FQ M (eA M r j v) := ⟨fun r' j' h1 h2 => by rw [mA_eA, if_neg (by omega)], fun _ _ => rfl, rfl⟩
theorem g_turns {M : MS} {s : QS} {r : Nat} (h : QM M s r) : ∃ N, g_X11_turns M = some N ∧ QM N (tnQ s) r ∧ FQ M N := by
  obtain ⟨h1, h2, h3, h4⟩ := h
  refine ⟨_, rfl, ⟨?_, ?_, ?_, h4⟩, FQ_trans (FQ_trans (FQ_eF 22 _ (by omega)) (FQ_eF 23 _ (by omega))) (FQ_eF 24 _ (by omega))⟩
  · rw [mF_eF, if_neg (by decide), mF_eF, if_neg (by decide), mF_eF, if_pos rfl, h1, zN_add1]; rfl
  · rw [mF_eF, if_neg (by decide), mF_eF, if_pos rfl]; rfl
  · rw [mF_eF, if_pos rfl]; rfl
theorem g_rows {k n H : Nat} (hk : k < 24) (hH4 : 4 ≤ H) (hH : H ≤ 30) (fst : Nat) (hf : fst + n ≤ 960) : ∀ (d r : Nat) (s : QS) (M : MS) (f : Nat), r + d = fst + n → fst ≤ r → mA M 13 k = zI fst → QM M s r → qPl s ≤ H → d < f → ∃ N, LGX11_paginates_154 f (zI k) (zI n) (zI H) (zI r) M = some N ∧ QM N (rowsQ H d r s) (fst + n) ∧ FQ M N := by
  intro d
  have ik : ix (zI (k : Int)) 24 = some k := ix_l _ _ hk (by omega)
  induction d with
  | zero =>
    intro r s M f h1 h2 h3 h4 h5 h6
    obtain ⟨f, rfl⟩ : ∃ f', f = f' + 1 := ⟨f - 1, by omega⟩
    have e : r = fst + n := by omega
    subst e
    refine ⟨M, ?_, h4, FQ_refl M⟩
    rw [LGX11_paginates_154, ik, bnd, h3, zN_add, if_pos ((zN_le (by omega) (by omega)).mpr (by omega))]
  | succ d ih =>
    intro r s M f h1 h2 h3 h4 h5 h6
    obtain ⟨f, rfl⟩ : ∃ f', f = f' + 1 := ⟨f - 1, by omega⟩
    obtain ⟨M1, m1, m2, m3⟩ : ∃ M1, (if ¬ (mF M 23) = zI H then some M else (g_X11_turns M).bind fun q41 => some q41) = some M1 ∧ QM M1 (rowQ0 H s) r ∧ FQ M M1 := by
      by_cases q : qPl s = H
      · obtain ⟨N, n1, n2, n3⟩ := g_turns h4
        refine ⟨N, ?_, by rw [rowQ0, if_pos q]; exact n2, n3⟩
        rw [if_neg (fun x => x (by rw [h4.2.1, q])), n1, bnd]
      · refine ⟨M, ?_, by rw [rowQ0, if_neg q]; exact h4, FQ_refl M⟩
        rw [if_pos (fun x => by rw [h4.2.1] at x; exact q ((zN_eq (by omega) (by omega)).mp x))]
    obtain ⟨c1, c2, c3, c4⟩ := m2
    have ir : ix (zI (r : Int)) 960 = some r := ix_l _ _ (by omega) (by omega)
    have hpl : qPl (rowQ0 H s) ≤ 30 := by
      unfold rowQ0; split
      · exact Nat.zero_le _
      · omega
    have hpl2 : qPl (rowQ0 H s) + 1 ≤ H := by
      unfold rowQ0; split
      · show 0 + 1 ≤ H; omega
      · omega
    have fq : FQ M (eF (eF (eA (eA M1 10 r (zI (qPg (rowQ0 H s)))) 11 r (zI (qPl (rowQ0 H s)))) 23 (zI ((qPl (rowQ0 H s) + 1 : Nat) : Int))) 24 0) := FQ_trans m3 (FQ_trans (FQ_trans (FQ_trans (FQ_eA 10 _ _ (by omega)) (FQ_eA 11 _ _ (by omega))) (FQ_eF 23 _ (by omega))) (FQ_eF 24 _ (by omega)))
    have qm : QM (eF (eF (eA (eA M1 10 r (zI (qPg (rowQ0 H s)))) 11 r (zI (qPl (rowQ0 H s)))) 23 (zI ((qPl (rowQ0 H s) + 1 : Nat) : Int))) 24 0) (rowQ H r s) (r + 1) := by
      refine ⟨c1, rfl, rfl, fun i hi => ?_⟩
      have e0 : qF (rowQ0 H s) = qF s ∧ qL (rowQ0 H s) = qL s := by unfold rowQ0; split <;> exact ⟨rfl, rfl⟩
      rw [e0.1, e0.2] at c4
      simp only [mA_eF, mA_eA, rowQ, qF, qL]
      by_cases q : i = r
      · subst q; simp
      · simp only [q, and_false, if_false]; exact c4 i (by omega)
    have step : LGX11_paginates_154 (f + 1) (zI k) (zI n) (zI H) (zI r) M = LGX11_paginates_154 f (zI k) (zI n) (zI H) (zI ((r + 1 : Nat) : Int)) (eF (eF (eA (eA M1 10 r (zI (qPg (rowQ0 H s)))) 11 r (zI (qPl (rowQ0 H s)))) 23 (zI ((qPl (rowQ0 H s) + 1 : Nat) : Int))) 24 0) := by
      rw [LGX11_paginates_154, ik, bnd, h3, zN_add, if_neg (fun x => by have := (zN_le (by omega) (by omega)).mp x; omega), m1, bnd, ir, bnd, bnd, zN_add1]
      simp only [mF_eA, c1, c2]
      rw [zN_add1]
    obtain ⟨N, n1, n2, n3⟩ := ih (r + 1) (rowQ H r s) _ f (by omega) (by omega) ((fq.1 13 k (by decide) (by decide)).trans h3) qm hpl2 (by omega)
    exact ⟨N, step.trans n1, n2, FQ_trans fq n3⟩
theorem rowsQ_pl (H : Nat) (hH : 4 ≤ H) : ∀ d r s, qPl s ≤ H → qPl (rowsQ H d r s) ≤ H := by
  intro d
  induction d with
  | zero => intro r s h; exact h
  | succ d ih =>
    intro r s h
    refine ih (r + 1) _ ?_
    show qPl (rowQ0 H s) + 1 ≤ H
    unfold rowQ0; split
    · show 0 + 1 ≤ H; omega
    · omega
theorem b2i (b : Bool) : ((if b = true then (1 : Int32) else 0) = 0) ↔ b = false := by cases b <;> simp
/-- before a line's rows -/
theorem g_head {M : MS} {s : QS} {r H K n all : Nat} (bg : Bool) (h : QM M s r) (hp : qPl s ≤ H) (hH : H ≤ 30) (hK : K ≤ 1000) (hn : n ≤ 1000) (hall : all ≤ 1000) (hn1 : 1 ≤ n) :
    ∃ N, (if (if bg = true then (1 : Int32) else 0) = 0 then
    (if ¬ (mF M 24) = 0 then some M else if zI n ≤ (zI H - (mF M 23)) then some M else (g_X11_turns M).bind fun q11 => some q11)
  else
    (if zI K < zI all then some (0 : Int32) else if zI H < zI all then some 0 else if zI all ≤ ((zI H - (mF M 23)) - 1) then some 0 else some 1).bind fun (x19 : Int32) =>
    (if ¬ (mF M 24) = 0 then
      if ¬ (mF M 24) = 0 then some M else some (eF M 23 ((mF M 23) + 1))
    else
      if ((zI H - (mF M 23)) - 1) < zI n then (g_X11_turns M).bind fun q27 => some q27
      else
        if x19 = 0 then
          if ¬ (mF M 24) = 0 then some M else some (eF M 23 ((mF M 23) + 1))
        else (g_X11_turns M).bind fun q31 => some q31).bind fun (x23 : MS) =>
    some x23) = some N ∧ QM N (headQ H K n all bg s) r ∧ FQ M N ∧ qPl (headQ H K n all bg s) ≤ H := by
  obtain ⟨N, n1, n2, n3⟩ := g_turns h
  obtain ⟨h1, h2, h3, h4⟩ := id h
  have e1 : zI (H : Int) - zI (qPl s) = zI ((H - qPl s : Nat) : Int) := zN_sub hp
  have e2 : ∀ x : Nat, x ≤ 1000 → ((zI (H : Int) - zI (qPl s) - 1 < zI x) ↔ H < qPl s + 1 + x) := by
    intro x hx
    rw [zI_sub, show (1 : Int32) = zI (1 : Int) from rfl, zI_sub, zI_lt (by omega) (by omega) (by omega) (by omega)]; omega
  have e3 : ∀ x : Nat, x ≤ 1000 → ((zI x ≤ zI (H : Int) - zI (qPl s) - 1) ↔ ¬ H < qPl s + 1 + x) := by
    intro x hx
    rw [zI_sub, show (1 : Int32) = zI (1 : Int) from rfl, zI_sub, zI_le (by omega) (by omega) (by omega) (by omega)]; omega
  have tp : qPl (tnQ s) ≤ H := Nat.zero_le _
  cases bg with
  | false =>
    have hq : headQ H K n all false s = (if qE s = false ∧ H < qPl s + n then tnQ s else s) := rfl
    rw [if_pos (show (if false = true then (1 : Int32) else 0) = 0 from rfl), hq]
    cases he : qE s with
    | true =>
      have h24 : ¬ mF M 24 = 0 := by rw [h3, he]; decide
      rw [if_pos h24, if_neg (fun x => by cases x.1)]
      exact ⟨M, rfl, h, FQ_refl M, hp⟩
    | false =>
      have h24 : mF M 24 = 0 := by rw [h3, he]; rfl
      rw [if_neg (fun x => x h24), h2, e1]
      by_cases q : H < qPl s + n
      · rw [if_neg (fun x => by have := (zN_le (by omega) (by omega)).mp x; omega), if_pos ⟨rfl, q⟩, n1, bnd]
        exact ⟨N, rfl, n2, n3, tp⟩
      · rw [if_pos ((zN_le (by omega) (by omega)).mpr (by omega)), if_neg (fun x => q x.2)]
        exact ⟨M, rfl, h, FQ_refl M, hp⟩
  | true =>
    have hq : headQ H K n all true s = (if qE s = true then s else if H < qPl s + 1 + n ∨ (all ≤ K ∧ all ≤ H ∧ H < qPl s + 1 + all) then tnQ s else (qPg s, qPl s + 1, qE s, qF s, qL s)) := rfl
    have ek : (if zI (K : Int) < zI all then some (0 : Int32) else if zI (H : Int) < zI all then some 0 else if zI (all : Int) ≤ ((zI H - (mF M 23)) - 1) then some 0 else some 1) = some (if all ≤ K ∧ all ≤ H ∧ H < qPl s + 1 + all then 1 else 0) := by
      rw [h2]
      by_cases a : K < all
      · rw [if_pos ((zN_lt (by omega) (by omega)).mpr a), if_neg (by omega)]
      · rw [if_neg (fun x => a ((zN_lt (by omega) (by omega)).mp x))]
        by_cases b : H < all
        · rw [if_pos ((zN_lt (by omega) (by omega)).mpr b), if_neg (by omega)]
        · rw [if_neg (fun x => b ((zN_lt (by omega) (by omega)).mp x))]
          by_cases c : H < qPl s + 1 + all
          · rw [if_neg (fun x => (e3 all hall).mp x c), if_pos (by omega)]
          · rw [if_pos ((e3 all hall).mpr c), if_neg (by omega)]
    rw [if_neg (show ¬ (if true = true then (1 : Int32) else 0) = 0 by decide), ek, bnd, hq]
    cases he : qE s with
    | true =>
      have h24 : ¬ mF M 24 = 0 := by rw [h3, he]; decide
      rw [if_pos h24, if_pos h24, bnd, if_pos rfl]
      exact ⟨M, rfl, h, FQ_refl M, hp⟩
    | false =>
      have h24 : mF M 24 = 0 := by rw [h3, he]; rfl
      have nf : ¬ false = true := by decide
      rw [if_neg (fun x => x h24), if_neg nf, h2]
      by_cases a : H < qPl s + 1 + n
      · rw [if_pos ((e2 n hn).mpr a), n1, if_pos (Or.inl a)]
        exact ⟨N, rfl, n2, n3, tp⟩
      · rw [if_neg (fun x => a ((e2 n hn).mp x))]
        by_cases c : all ≤ K ∧ all ≤ H ∧ H < qPl s + 1 + all
        · rw [if_pos c, if_neg (show ¬ (1 : Int32) = 0 by decide), n1, if_pos (Or.inr c)]
          exact ⟨N, rfl, n2, n3, tp⟩
        · rw [if_neg c, if_pos rfl, if_neg (fun x => x h24), if_neg (fun x => x.elim a c)]
          refine ⟨_, rfl, ⟨?_, ?_, ?_, h4⟩, FQ_eF 23 _ (by omega), by show qPl s + 1 ≤ H; omega⟩
          · rw [mF_eF, if_neg (by decide)]; exact h1
          · rw [mF_eF, if_pos rfl, zN_add1]; rfl
          · rw [mF_eF, if_neg (by decide), h24]; rfl
/-- drawn, and the pages of the first k lines laid -/
def DQ (M : MS) (P : PoT) (W H k : Nat) : Prop := DM M P W P.2.1 ∧ QM M (pagQ P W H k) (layA P W k).1 ∧ qPl (pagQ P W H k) ≤ H
theorem RM_FQ {M N : MS} {rs : RS} (h : RM M rs) (g : FQ M N) : RM N rs := by
  refine ⟨(g.2.1 17 (by omega)).trans h.1, fun i hi => ?_⟩
  obtain ⟨a1, a2, a3, a4, a5, a6⟩ := h.2 i hi
  refine ⟨?_, ?_, ?_, ?_, ?_, ?_⟩ <;> rw [g.1 _ _ (by decide) (by decide)] <;> assumption
theorem DM_FQ {M N : MS} {P : PoT} {W k : Nat} (h : DM M P W k) (g : FQ M N) : DM N P W k := by
  obtain ⟨d1, d2, d3, d4, d5, d6, d7⟩ := h
  refine ⟨RM_FQ d1 g, fun i hi => ?_, fun s hs => ?_, d4, d5, d6, d7⟩
  · rw [g.1 12 _ (by decide) (by decide), g.1 13 _ (by decide) (by decide), g.1 14 _ (by decide) (by decide)]; exact d2 i hi
  · rw [g.1 15 _ (by decide) (by decide)]; exact d3 s hs
theorem szN_mono (P : PoT) {i j : Nat} (h : i ≤ j) : szN P i ≤ szN P j := by
  induction h with
  | refl => exact Nat.le_refl _
  | step _ ih => rw [szN]; split <;> omega
theorem g_pagLine {P : PoT} (ho : okP P) {k : Nat} (hk : k < P.2.1) {M : MS} (hp : PM M P) (hd : DQ M P (P.2.2 0) (P.2.2 1) k) (hmon : (layA P (P.2.2 0) k).1 + lrS P (P.2.2 0) k = (layA P (P.2.2 0) (k + 1)).1) (hpos : 1 ≤ lrS P (P.2.2 0) k) (h20 : (layA P (P.2.2 0) (k + 1)).1 ≤ 480) :
    ∃ N, g_X11_paginates M (zI k) = some N ∧ DQ N P (P.2.2 0) (P.2.2 1) (k + 1) ∧ FQ M N := by
  have h24 := ho.1
  obtain ⟨s1, s2, s3, s4, s5, s6, s7⟩ := ho.2.2
  obtain ⟨c1, c2, c3⟩ := hd
  obtain ⟨d1, d2, d3, d4, d5, d6, d7⟩ := id c1
  obtain ⟨l1, l2, l3⟩ := d2 k hk
  have ik : ix (zI (k : Int)) 24 = some k := ix_l _ _ (by omega) (by omega)
  have q1 : mA M 0 2042 = zI (P.2.2 1) := PM_s hp (i := 1) (by omega)
  have q4 : mA M 0 2045 = zI (P.2.2 4) := PM_s hp (i := 4) (by omega)
  have i42 : ix (2042 : Int32) 2046 = some 2042 := rfl
  have i45 : ix (2045 : Int32) 2046 = some 2045 := rfl
  have hz1 := szN_le P (k + 1)
  have hzm := szN_mono P (show k + 1 ≤ P.2.1 by omega)
  have hz2 := szN_le P P.2.1
  have hzo : szO P k < szN P P.2.1 := by unfold szO; omega
  have iS : ix (zI (szO P k : Nat)) 24 = some (szO P k) := ix_l _ _ (by omega) (by omega)
  have l15 : mA M 15 (szO P k) = zI (srS P (P.2.2 0) P.2.1 (szO P k)) := d3 _ hzo
  have hall : srS P (P.2.2 0) P.2.1 (szO P k) ≤ 1000 := by have := d6 _ hzo; omega
  obtain ⟨N1, n1, n2, n3, n4⟩ := g_head (r := (layA P (P.2.2 0) k).1) (H := P.2.2 1) (K := P.2.2 4) (n := lrS P (P.2.2 0) k) (all := srS P (P.2.2 0) P.2.1 (szO P k)) (bgS P k) c2 c3 s4 (by omega) (by omega) hall hpos
  obtain ⟨N2, m1, m2, m3⟩ := g_rows (k := k) (n := lrS P (P.2.2 0) k) (H := P.2.2 1) (by omega) s3 s4 (layA P (P.2.2 0) k).1 (by omega) (lrS P (P.2.2 0) k) (layA P (P.2.2 0) k).1 _ N1 FU rfl (Nat.le_refl _) ((n3.1 13 k (by decide) (by decide)).trans l2) n2 n4 (by simp only [FU]; omega)
  refine ⟨N2, ?_, ⟨DM_FQ c1 (FQ_trans n3 m3), ?_, ?_⟩, FQ_trans n3 m3⟩
  · rw [g_X11_paginates, ik, bnd, i42, bnd, g_bg hp ho (by omega), bnd]
    simp only [bnd, i45, l1, iS, l15, q1, q4, l3]
    rw [n1, bnd, n3.1 13 k (by decide) (by decide), l2, m1, bnd]
  · rw [← hmon]; exact m2
  · exact rowsQ_pl _ s3 _ _ _ n4
theorem words_ok {k W c1 cnt fst : Nat} {E : Nat → Nat} (hE : ∀ j, j < cnt → 1 ≤ E j ∧ E j ≤ 80) : ∀ (d j : Nat) (rs : RS) (fp : Nat), j + d = cnt → RB k W c1 rs fp (stW E j) → rs.1 = fst + rIx (lastR rs) + 1 → (d = 0 → 0 < rLe (lastR rs)) →
    ∃ fp', RB k W c1 (wordsS W c1 E d j rs) fp' (stW E cnt) ∧ (wordsS W c1 E d j rs).1 = fst + rIx (lastR (wordsS W c1 E d j rs)) + 1 ∧ 0 < rLe (lastR (wordsS W c1 E d j rs)) := by
  intro d
  induction d with
  | zero => intro j rs fp hj h hi hl; rw [show cnt = j by omega]; exact ⟨fp, h, hi, hl rfl⟩
  | succ d ih =>
    intro j rs fp hj h hi hl
    obtain ⟨e1, e2⟩ := hE j (by omega)
    obtain ⟨fp', c1', c2, c3⟩ := word_ok h e1 e2
    exact ih (j + 1) _ fp' (by omega) c1' (by omega) (fun _ => c2)
theorem layL_ok {P : PoT} (ho : okP P) {W k : Nat} (hW : 12 ≤ W) (hW2 : W ≤ 60) (hk : k < P.2.1) (rs : RS) : ∃ fp, RB k W (c1S P W k) (layL P W k rs) fp (nLen (P.1 k) + 1) ∧ (layL P W k rs).1 = rs.1 + rIx (lastR (layL P W k rs)) + 1 ∧ rIx (lastR (layL P W k rs)) ≤ 19 := by
  obtain ⟨o1, o2, o3, o4, o5, o6, o7⟩ := ho.2.1 k hk
  have l1 := (o4.2.1 o2).1
  have eL : lastR (addR rs (k, 0, c0S P W k rs, 0, 0, 0)) = (k, 0, c0S P W k rs, 0, 0, 0) := lastR_add _ _
  have hc0 : c0S P W k rs + 6 ≤ W := by unfold c0S; omega
  have hrb : RB k W (c1S P W k) (addR rs (k, 0, c0S P W k rs, 0, 0, 0)) 0 (stW (nE (P.1 k)) 0) := by
    refine ⟨⟨?_, ?_, ?_, ?_, ?_, ?_⟩, Or.inl ⟨?_, ?_, ?_⟩, ?_⟩
    · show 0 < rs.1 + 1; omega
    · rw [eL]; exact hc0
    · unfold c1S; omega
    · rw [eL]; rfl
    · rw [eL]; show 8 * (0 / 2) ≤ 0; omega
    · rw [eL]; intro x; exact absurd x (by show ¬ 0 < 0; omega)
    · rw [eL]; rfl
    · rw [eL]; rfl
    · rw [eL]; rfl
    · rw [eL]; show c0S P W k rs + 0 ≤ _; omega
  have hix : (addR rs (k, 0, c0S P W k rs, 0, 0, 0)).1 = rs.1 + rIx (lastR (addR rs (k, 0, c0S P W k rs, 0, 0, 0))) + 1 := by rw [eL]; rfl
  have hE : ∀ j, j < nCnt (P.1 k) → 1 ≤ nE (P.1 k) j ∧ nE (P.1 k) j ≤ 80 := fun j hj => ⟨o4.2.2.1 j hj, by have := stW_m (nE (P.1 k)) hj; omega⟩
  obtain ⟨fp, a1, a2, a3⟩ := words_ok (fst := rs.1) hE (nCnt (P.1 k)) 0 _ 0 (by omega) hrb hix (fun x => by omega)
  have ez : layL P W k rs = wordsS W (c1S P W k) (nE (P.1 k)) (nCnt (P.1 k)) 0 (addR rs (k, 0, c0S P W k rs, 0, 0, 0)) := rfl
  rw [← ez] at a1 a2 a3
  rw [← l1] at a1
  refine ⟨fp, a1, a2, ?_⟩
  obtain ⟨⟨b1, b2, b3, b4, b5, b6⟩, b7, b8⟩ := a1
  omega
/-- the rows of the first lines: how many; the last one -/
theorem layA_ok {P : PoT} (ho : okP P) {W : Nat} (hW : 12 ≤ W) (hW2 : W ≤ 60) : ∀ k, k ≤ P.2.1 → (layA P W k).1 ≤ 20 * k ∧ (0 < k → 0 < (layA P W k).1 ∧ rCo (lastR (layA P W k)) + rLe (lastR (layA P W k)) ≤ W ∧ rLn (lastR (layA P W k)) + 1 = k) ∧ (k < P.2.1 → (layA P W k).1 < (layA P W (k + 1)).1 ∧ (layA P W (k + 1)).1 ≤ (layA P W k).1 + 20)
  | 0, _ => by
    refine ⟨Nat.zero_le _, fun h => by omega, fun h => ?_⟩
    obtain ⟨fp, a1, a2, a3⟩ := layL_ok ho hW hW2 h (layA P W 0)
    have e : layA P W (0 + 1) = layL P W 0 (layA P W 0) := rfl
    rw [e]; omega
  | k + 1, hk => by
    obtain ⟨b1, b2, b3⟩ := layA_ok ho hW hW2 k (by omega)
    have b3 := b3 (by omega)
    obtain ⟨fp, a1, a2, a3⟩ := layL_ok ho hW hW2 (show k < P.2.1 by omega) (layA P W k)
    have e : layA P W (k + 1) = layL P W k (layA P W k) := rfl
    rw [← e] at a1 a2 a3
    obtain ⟨⟨c1, c2, c3, c4, c5, c6⟩, c7, c8⟩ := a1
    refine ⟨by omega, fun _ => ⟨by omega, c8, by omega⟩, fun h => ?_⟩
    obtain ⟨fp2, d1, d2, d3⟩ := layL_ok ho hW hW2 h (layA P W (k + 1))
    have e2 : layA P W (k + 1 + 1) = layL P W (k + 1) (layA P W (k + 1)) := rfl
    rw [e2]; omega
theorem g_draw2 {P : PoT} (ho : okP P) : ∀ (d k : Nat) (M : MS) (f : Nat), k + d = P.2.1 → PM M P → DQ M P (P.2.2 0) (P.2.2 1) k → d < f → ∃ N, LGX11_draws_116 f (zI k) M = some N ∧ DQ N P (P.2.2 0) (P.2.2 1) P.2.1 ∧ FQ M N := by
  intro d
  have h24 := ho.1
  have h40 : ix (2040 : Int32) 2046 = some 2040 := rfl
  induction d with
  | zero =>
    intro k M f hk hp hd hf
    obtain ⟨f, rfl⟩ : ∃ f', f = f' + 1 := ⟨f - 1, by omega⟩
    have e : k = P.2.1 := by omega
    subst e
    refine ⟨M, ?_, hd, FQ_refl M⟩
    rw [LGX11_draws_116, h40, bnd, PM_n hp, if_pos ((zN_le (by omega) (by omega)).mpr (by omega))]
  | succ d ih =>
    intro k M f hk hp hd hf
    obtain ⟨f, rfl⟩ : ∃ f', f = f' + 1 := ⟨f - 1, by omega⟩
    obtain ⟨a1, a2, a3⟩ := layA_ok ho ho.2.2.1 ho.2.2.2.1 k (by omega)
    have a3 := a3 (by omega)
    obtain ⟨N, n1, n2, n3⟩ := g_pagLine ho (show k < P.2.1 by omega) hp hd (by unfold lrS; omega) (by unfold lrS; omega) (by omega)
    obtain ⟨N2, m1, m2, m3⟩ := ih (k + 1) N f (by omega) (PM_c hp (fun j => n3.1 0 j (by decide) (by decide))) n2 (by omega)
    refine ⟨N2, ?_, m2, FQ_trans n3 m3⟩
    rw [LGX11_draws_116, h40, bnd, PM_n hp, if_neg (fun x => by have := (zN_le (by omega) (by omega)).mp x; omega), n1, bnd, zN_add1, m1]
/-- nothing but what is drawn has changed -/
def FA (M N : MS) : Prop := (∀ r j, r < 4 → mA N r j = mA M r j) ∧ (∀ k, k ≠ 17 → k < 22 ∨ 24 < k → mF N k = mF M k) ∧ mJ N = mJ M
theorem FA_FD {M N : MS} (h : FD M N) : FA M N := ⟨fun r j hr => h.1 r j (by omega) (by omega), fun k hk _ => h.2.1 k hk, h.2.2⟩
theorem FA_FQ {M N : MS} (h : FQ M N) : FA M N := ⟨fun r j hr => h.1 r j (by omega) (by omega), fun k _ hk => h.2.1 k hk, h.2.2⟩
theorem FA_trans {M N O : MS} (h : FA M N) (g : FA N O) : FA M O := ⟨fun r j hr => (g.1 r j hr).trans (h.1 r j hr), fun k h1 h2 => (g.2.1 k h1 h2).trans (h.2.1 k h1 h2), g.2.2.trans h.2.2⟩
theorem g_draws {P : PoT} (ho : okP P) {M : MS} (hp : PM M P) : ∃ N, g_X11_draws M = some N ∧ DQ N P (P.2.2 0) (P.2.2 1) P.2.1 ∧ FA M N := by
  have h24 := ho.1
  have f0 : FA M (eF M 17 0) := ⟨fun _ _ _ => rfl, fun k h1 _ => by rw [mF_eF, if_neg h1], rfl⟩
  have dm0 : DM (eF M 17 0) P (P.2.2 0) 0 := by
    refine ⟨⟨?_, fun i hi => absurd hi (Nat.not_lt_zero i)⟩, fun i hi => by omega, fun s hs => absurd hs (Nat.not_lt_zero s), Nat.zero_le _, fun h => by omega, fun s hs => absurd hs (Nat.not_lt_zero s), fun s _ => rfl⟩
    rw [mF_eF, if_pos rfl]; rfl
  obtain ⟨N1, n1, n2, n3⟩ := g_draw1 ho P.2.1 0 (eF M 17 0) FU (by omega) (PM_c hp (fun _ => rfl)) dm0 (by simp only [FU]; omega)
  have n1' : LGX11_draws_9 FU (-1) 0 (eF M 17 0) = some N1 := n1
  have fq : FQ N1 (eF (eF (eF N1 22 0) 23 0) 24 1) := FQ_trans (FQ_trans (FQ_eF 22 _ (by omega)) (FQ_eF 23 _ (by omega))) (FQ_eF 24 _ (by omega))
  have dq : DQ (eF (eF (eF N1 22 0) 23 0) 24 1) P (P.2.2 0) (P.2.2 1) 0 := ⟨DM_FQ n2 fq, ⟨rfl, rfl, rfl, fun i hi => absurd hi (Nat.not_lt_zero i)⟩, Nat.zero_le _⟩
  obtain ⟨N2, m1, m2, m3⟩ := g_draw2 ho P.2.1 0 _ FU (by omega) (PM_c hp (fun j => (fq.1 0 j (by decide) (by decide)).trans (n3.1 0 j (by omega) (by omega)))) dq (by simp only [FU]; omega)
  have m1' : LGX11_draws_116 FU 0 (eF (eF (eF N1 22 0) 23 0) 24 1) = some N2 := m1
  refine ⟨N2, ?_, m2, FA_trans f0 (FA_trans (FA_FD n3) (FA_trans (FA_FQ fq) (FA_FQ m3)))⟩
  rw [g_X11_draws, n1', bnd, m1', bnd]

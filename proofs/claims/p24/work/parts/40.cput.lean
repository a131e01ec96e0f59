/-- rows: what pages need of them -/
def XR (rs : RS) (i : Nat) : Nat := rIx (rs.2 i)
theorem c_putRow {Q : Nat → Prop} {C S : Nat} {σ : St} {t H r ro : Nat} {rs : RS} {sh : Nat → Nat} {s : QS} (h : LI Q C S σ t) (hr : RoL σ t rs sh) (hX : ∀ i, i < rs.1 → XR rs i ≤ 1000) (hri : r < rs.1) (hH : H ≤ 30) (hH4 : 4 ≤ H) (hb : hpB σ (t + 1) r = some ro) (hq : PQ σ t H (XR rs) s r) :
    ∃ τ, f_X1_putRow σ t (some ro) (zI r) (zI H) = some τ ∧ LI Q C S τ t ∧ PQ τ t H (XR rs) (rowQ H r s) (r + 1) ∧ FZ (okPg Q t) (oB t 4) σ τ := by
  have hN := h.2.1.1
  have h480 := hr.2.1
  obtain ⟨pc, np, p1, p2, ⟨q1, q2, q3, q4, q5⟩, p3, p4, p5, p6⟩ := hq
  have hrow : ∀ i, i < rs.1 → ∃ a, hpB σ (t + 1) i = some a ∧ hpI σ 193 a = zI (XR rs i) := fun i hi => by
    obtain ⟨a, a1, a2⟩ := hr.2.2.1 i hi
    exact ⟨a, a1, a2.2.1⟩
  by_cases hc : qE s = false ∧ qPl s < H
  · -- on the page that stands
    obtain ⟨e1, e2⟩ := p5 hc.1
    obtain ⟨a, a1, a2⟩ := q1 (qPg s) (by omega)
    have e0 : rowQ0 H s = s := by rw [rowQ0, if_neg (by omega)]
    obtain ⟨τ', t1, t2, t3, t4, t5, t6⟩ := c_putRow1 (H := H) (pc := qPg s) (np := np) h hri h480 hrow hX hb (by rw [p1, e1]) p2 a1 (fun p hp => q1 p (by omega)) (by
      rw [a2.1]
      by_cases z : (pgS (qF s) (qL s) (XR rs) (qPg s) r).2.1 = 0
      · have := q5 (qPg s) (by omega); omega
      · rw [if_neg z]) a2.2.1 a2.2.2.2 q2 (fun i hi => by have := q3 i hi; omega) (by omega) (fun p hp => q5 p (by omega))
    refine ⟨τ', ?_, t2, ?_, t3⟩
    · rw [f_X1_putRow, p2, if_neg (fun x => by have := (zN_le (by omega) (by omega)).mp x; omega), p1, zN_sub1 (by omega), c_pageAtN h p1 (by omega) (by omega), show pc - 1 = qPg s by omega, a1, bnd, bnd, if_neg (by simp), bnd]
      exact t1
    · refine ⟨qPg s + 1, np + 1, t4, t5, ?_, ?_, by omega, fun _ => ⟨?_, ?_⟩, fun x => by cases x⟩
      · have eF : qF (rowQ H r s) = upN (qF s) r (qPg s) := by unfold rowQ; rw [e0]; rfl
        have eL : qL (rowQ H r s) = upN (qL s) r np := by unfold rowQ; rw [e0, e2]; rfl
        rw [eF, eL]; exact t6
      · show qPl (rowQ0 H s) + 1 ≤ H; rw [e0]; omega
      · show qPg s + 1 = qPg (rowQ0 H s) + 1; rw [e0]
      · show np + 1 = qPl (rowQ0 H s) + 1; rw [e0]; omega
  · -- a new page
    have hpc : qPg (rowQ0 H s) = pc ∧ qPl (rowQ0 H s) = 0 := by
      cases he : qE s with
      | false =>
        obtain ⟨e1, e2⟩ := p5 he
        have : qPl s = H := by
          by_cases z : qPl s < H
          · exact absurd ⟨he, z⟩ hc
          · omega
        rw [rowQ0, if_pos this]; exact ⟨e1.symm, rfl⟩
      | true =>
        obtain ⟨e1, e2, e3⟩ := p6 he
        rw [rowQ0, if_neg (by omega)]; exact ⟨e1.symm, e2⟩
    have hnull : (if zI (H : Int) ≤ (hpI σ 40 t) then some none else (f_X1_pageAt σ t ((hpI σ 38 t) - 1)).bind fun q3 => some q3) = some (none : Option Nat) := by
      by_cases z : np = H
      · rw [p2, if_pos ((zN_le (by omega) (by omega)).mpr (by omega))]
      · have z0 : pc = 0 := by
          cases he : qE s with
          | false =>
            obtain ⟨e1, e2⟩ := p5 he
            exact absurd ⟨he, by omega⟩ hc
          | true =>
            obtain ⟨e1, e2, e3⟩ := p6 he
            omega
        rw [p2, if_neg (fun x => by have := (zN_le (by omega) (by omega)).mp x; omega), p1, z0, show zI ((0 : Nat) : Int) - 1 = zI (-1) from rfl, c_pageAt0 h (by rw [p1, z0]) (Nat.zero_le _) (-1) (by omega) (by omega) (by omega), bnd]
    obtain ⟨a, τ1, g1, g2, g3, g4, g5, g6, g7, g8, g9, g10⟩ := c_addPage (k := r) h p1 (by omega)
    have hN1 := g3.2.1.1
    have n36 : ¬ okPg Q t 193 t := fun x => by unfold okPg at x; omega
    have hb1 := FZ_B g4 (show t + 1 < hpN σ by omega) hb
    have pg0 : pgS (qF s) (qL s) (XR rs) pc r = (0, 0, 0, 0) := pgS_0 r (fun i hi => by have := q3 i hi; omega)
    have l0 : LI Q C S (stI τ1 40 t 0) t := LI_stI g3 _ _ _
    obtain ⟨τ', t1, t2, t3, t4, t5, t6⟩ := c_putRow1 (τ := stI τ1 40 t 0) (H := H) (pc := pc) (np := 0) (F := qF s) (L := qL s) l0 hri h480 (fun i hi => by
      obtain ⟨y, y1, y2⟩ := hrow i hi
      have ky := RoL_k h (by omega) y1
      exact ⟨y, B_I (FZ_B g4 (by omega) y1), by rw [hI_f (by decide)]; exact (FZ_I g4 ky.2.1 (fun x => by unfold okPg at x; omega)).trans y2⟩) hX (B_I hb1) (by rw [hI_f (by decide)]; exact g5) (by rw [hI_e]; rfl) (B_I g2) (fun p hp => by
      obtain ⟨y, y1, y2, y3, y4, y5⟩ := q1 p hp
      have ky := P_k h (by omega) y1
      have y1' := FZ_B g4 (show t + 4 < hpN σ by omega) y1
      have ne : y ≠ a := fun x => by
        subst x; have := g3.2.2.2.2.2.2.2.2.2.2 p pc y (by omega) (by omega) y1' g2; omega
      refine ⟨y, B_I y1', ?_, ?_, ?_, ?_⟩ <;> rw [hI_f (by decide), g10 y _ ky.2.1 ne (by decide) (by decide)] <;> assumption) (by rw [hI_f (by decide), pg0, if_pos rfl]; exact g7) (by rw [hI_f (by decide), pg0]; exact g8) (by rw [hI_f (by decide), pg0]; exact g9) (fun i hi => by
      obtain ⟨y, y1, y2, y3⟩ := q2 i hi
      have ky := RoL_k h (by omega) y1
      have ne : y ≠ a := fun x => by
        have k4 := (P_k g3 (show pc < 480 by omega) g2).1
        have k6 := (FZ_K g4 ky.2.1).trans ky.1
        rw [x, k4] at k6; cases k6
      refine ⟨y, B_I (FZ_B g4 (by omega) y1), ?_, ?_⟩ <;> rw [hI_f (by decide), g10 y _ ky.2.1 ne (by decide) (by decide)] <;> assumption) (fun i hi => by have := q3 i hi; omega) q4 q5
    refine ⟨τ', ?_, t2, ?_, FZ_trans g4 (FZ_trans (FZ_stI (FZ_refl _ _ _) 40 t _ (Or.inl ⟨rfl, Or.inr rfl⟩)) t3)⟩
    · rw [f_X1_putRow, hnull, bnd, if_pos rfl, g1, bnd, dn_eq g3.2.2.1, bnd, bnd]
      exact t1
    · refine ⟨pc + 1, 0 + 1, t4, t5, ?_, ?_, by omega, fun _ => ⟨?_, ?_⟩, fun x => by cases x⟩
      · have eF : qF (rowQ H r s) = upN (qF s) r pc := by unfold rowQ; rw [hpc.1]; rfl
        have eL : qL (rowQ H r s) = upN (qL s) r 0 := by unfold rowQ; rw [hpc.2]; rfl
        rw [eF, eL]; exact t6
      · show qPl (rowQ0 H s) + 1 ≤ H; rw [hpc.2]; omega
      · show pc + 1 = qPg (rowQ0 H s) + 1; rw [hpc.1]
      · show 0 + 1 = qPl (rowQ0 H s) + 1; rw [hpc.2]
/-- all that stands before pages are laid -/
def BR (Q : Nat → Prop) (C S : Nat) (σ : St) (t : Nat) (P : PoT) (W : Nat) : Prop := BL Q C S σ t P W P.2.1
theorem BR_FZ {Q : Nat → Prop} {C S : Nat} {σ τ : St} {t W : Nat} {P : PoT} (ho : okP P) (h : BR Q C S σ t P W) (g : FZ (okPg Q t) (oB t 4) σ τ) (hl : LI Q C S τ t) : BR Q C S τ t P W := by
  obtain ⟨h1, h2, h3, h4, h5⟩ := h
  have h24 := ho.1
  have hN := h1.2.1.1
  exact ⟨hl, RoL_FZ h1 h2 g (fun x => by unfold okPg at x; omega) (fun a f x1 x2 x3 x4 x => by unfold okPg at x; omega), (FZ_I g (by omega) (fun x => by unfold okPg at x; omega)).trans h3, SLx_FZ h1 h4 h24 g (fun f a x1 x2 x => by unfold okPg at x; omega), ZL_FZ h1 h5 h24 g (fun x => by unfold okPg at x; omega) (fun f a x1 x2 x => by unfold okPg at x; omega)⟩
theorem PQ_cl {σ : St} {t H : Nat} {X : Nat → Nat} {s : QS} {r : Nat} (h : PQ σ t H X s r) (he : qE s = false) : PQ (stI σ 40 t (zI H)) t H X (tnQ s) r := by
  obtain ⟨pc, np, p1, p2, ⟨q1, q2, q3, q4, q5⟩, p3, p4, p5, p6⟩ := h
  obtain ⟨e1, e2⟩ := p5 he
  refine ⟨pc, H, by rw [hI_f (by decide)]; exact p1, hI_e, ⟨fun p hp => ?_, fun i hi => ?_, q3, q4, q5⟩, Nat.zero_le _, Nat.le_refl _, (by intro x; cases x), fun _ => ⟨e1, rfl, Or.inl rfl⟩⟩
  · obtain ⟨a, a1, a2, a3, a4, a5⟩ := q1 p hp
    refine ⟨a, a1, ?_, ?_, ?_, ?_⟩ <;> rw [hI_f (by decide)] <;> assumption
  · obtain ⟨a, a1, a2, a3⟩ := q2 i hi
    refine ⟨a, a1, ?_, ?_⟩ <;> rw [hI_f (by decide)] <;> assumption
theorem PQ_np {σ : St} {t H np : Nat} {X : Nat → Nat} {s : QS} {r : Nat} (h : PQ σ t H X s r) (he : qE s = false) (hnp : np = qPl s + 1) (hH : np ≤ H) : PQ (stI σ 40 t (zI np)) t H X (qPg s, qPl s + 1, qE s, qF s, qL s) r := by
  obtain ⟨pc, np0, p1, p2, ⟨q1, q2, q3, q4, q5⟩, p3, p4, p5, p6⟩ := h
  obtain ⟨e1, e2⟩ := p5 he
  refine ⟨pc, np, by rw [hI_f (by decide)]; exact p1, hI_e, ⟨fun p hp => ?_, fun i hi => ?_, q3, q4, q5⟩, by show qPl s + 1 ≤ H; omega, hH, fun _ => ⟨e1, hnp⟩, fun x => by
    have x' : qE s = true := x
    rw [he] at x'; cases x'⟩
  · obtain ⟨a, a1, a2, a3, a4, a5⟩ := q1 p hp
    refine ⟨a, a1, ?_, ?_, ?_, ?_⟩ <;> rw [hI_f (by decide)] <;> assumption
  · obtain ⟨a, a1, a2, a3⟩ := q2 i hi
    refine ⟨a, a1, ?_, ?_⟩ <;> rw [hI_f (by decide)] <;> assumption
theorem FZ_40 {Q : Nat → Prop} {σ : St} {t : Nat} (v : Int32) : FZ (okPg Q t) (oB t 4) σ (stI σ 40 t v) := FZ_stI (FZ_refl _ _ _) 40 t _ (Or.inl ⟨rfl, Or.inr rfl⟩)
/-- ahead of a stanza -/
theorem c_passOver {Q : Nat → Prop} {C S : Nat} {σ : St} {t W H k z n all : Nat} {P : PoT} {s : QS} {r : Nat} {X : Nat → Nat} (ho : okP P) (h : BR Q C S σ t P W) (hk : k < P.2.1) (hzk : hpK σ z = 7) (h224 : hpI σ 224 z = zI k) (h226 : hpI σ 226 z = zI all) (hall : all ≤ 1000) (hn : n = lrS P W k) (hn1 : 1 ≤ n) (hn2 : n ≤ 1000) (hH : H ≤ 30) (hq : PQ σ t H X s r) (hE : qE s = true → r = 0 ∧ qPg s = 0) (hK : P.2.2 4 ≤ 1000) (hr480 : r ≤ 480) :
    ∃ τ, f_X1_passOver σ t (some z) (zI H) (zI (P.2.2 4)) = some τ ∧ BR Q C S τ t P W ∧ PQ τ t H X (headQ H (P.2.2 4) n all true s) r ∧ FZ (okPg Q t) (oB t 4) σ τ := by
  have h24 := ho.1
  obtain ⟨sp, b1, b2, b3⟩ := h.2.2.2.1 k hk
  have ks := SP_k h.1 (show k < 24 by omega) b1
  obtain ⟨pc, np, p1, p2, p0, p3, p4, p5, p6⟩ := id hq
  have hN := h.1.2.1.1
  have hhd : headQ H (P.2.2 4) n all true s = (if qE s = true then s else if H < qPl s + 1 + n ∨ (all ≤ P.2.2 4 ∧ all ≤ H ∧ H < qPl s + 1 + all) then tnQ s else (qPg s, qPl s + 1, qE s, qF s, qL s)) := rfl
  have ehead : f_X1_passOver σ t (some z) (zI H) (zI (P.2.2 4)) = (if (hpI σ 38 t) = 0 then some σ else
      (if zI (P.2.2 4) < zI all then some (0 : Int32) else if zI (H : Int) < zI all then some 0 else some 1).bind fun (x7 : Int32) =>
      sb (if ((zI H - (hpI σ 40 t)) - 1) < zI n then
        some (.inr ())
      else
        if x7 = 0 then
          some (.inl (stI σ 40 t ((hpI σ 40 t) + 1)))
        else
          if zI all ≤ ((zI H - (hpI σ 40 t)) - 1) then
            some (.inl (stI σ 40 t ((hpI σ 40 t) + 1)))
          else
            some (.inr ())) fun (wx12 : Unit) => some (stI σ 40 t (zI H))) := by
    rw [f_X1_passOver, dn_eq hzk, bnd, h224, c_spanAtN h.1 h.2.2.1 h24 hk, b1, bnd, h226, if_neg (show ¬ (some sp = none) by simp)]
    simp only [dn_eq ks.1, bnd, b3, f_X1_closePage, ← hn]
  rw [ehead, p1, p2]
  cases he : qE s with
  | true =>
    obtain ⟨e1, e2, e3⟩ := p6 he
    obtain ⟨e4, e5⟩ := hE he
    rw [if_pos (show zI ((pc : Nat) : Int) = 0 by rw [e1, e5]; rfl), hhd, he, if_pos rfl]
    exact ⟨σ, rfl, h, hq, FZ_refl _ _ _⟩
  | false =>
    obtain ⟨e1, e2⟩ := p5 he
    have e3 : ∀ x : Nat, x ≤ 1000 → ((zI (H : Int) - zI np - 1 < zI x) ↔ H < qPl s + 1 + x) := by
      intro x hx
      rw [zI_sub, show (1 : Int32) = zI (1 : Int) from rfl, zI_sub, zlt (by omega) (by omega) (by omega) (by omega)]; omega
    have e4 : ∀ x : Nat, x ≤ 1000 → ((zI x ≤ zI (H : Int) - zI np - 1) ↔ ¬ H < qPl s + 1 + x) := by
      intro x hx
      rw [zI_sub, show (1 : Int32) = zI (1 : Int) from rfl, zI_sub, zle (by omega) (by omega) (by omega) (by omega)]; omega
    have epc : ¬ zI ((pc : Nat) : Int) = 0 := fun x => by
      have h9 := p0.2.2.2.1
      have : pc = 0 := (zN_eq (b := 0) (by have := p0.2.2.2.1; omega) (by omega)).mp x
      omega
    have hF : ¬ (false = true) := by decide
    have Tcl : PQ (stI σ 40 t (zI H)) t H X (tnQ s) r := PQ_cl hq he
    have Lc : ∀ v, BR Q C S (stI σ 40 t v) t P W := fun v => BR_FZ ho h (FZ_40 v) (LI_stI h.1 _ _ _)
    rw [if_neg epc, hhd, he, if_neg hF]
    by_cases a : H < qPl s + 1 + n
    · have ec : ∀ x7 : Int32, (sb (if ((zI (H : Int) - zI np) - 1) < zI n then some (.inr ()) else if x7 = 0 then some (.inl (stI σ 40 t (zI np + 1))) else if zI all ≤ ((zI H - zI np) - 1) then some (.inl (stI σ 40 t (zI np + 1))) else some (.inr ())) fun (wx12 : Unit) => some (stI σ 40 t (zI H))) = some (stI σ 40 t (zI H)) := fun x7 => by
        rw [if_pos ((e3 n hn2).mpr a)]; rfl
      rw [if_pos (Or.inl a)]
      refine ⟨stI σ 40 t (zI H), ?_, Lc _, Tcl, FZ_40 _⟩
      by_cases b : zI ((P.2.2 4 : Nat) : Int) < zI all
      · rw [if_pos b, bnd, ec]
      · rw [if_neg b]
        by_cases c : zI (H : Int) < zI all
        · rw [if_pos c, bnd, ec]
        · rw [if_neg c, bnd, ec]
    · have ea := fun x => a ((e3 n hn2).mp x)
      have Tnp : PQ (stI σ 40 t (zI np + 1)) t H X (qPg s, qPl s + 1, qE s, qF s, qL s) r := by rw [zN_add1]; exact PQ_np hq he (by omega) (by omega)
      rw [he] at Tnp
      by_cases b : P.2.2 4 < all
      · rw [if_pos ((zN_lt (by omega) (by omega)).mpr b), bnd, if_neg ea, if_pos rfl, if_neg (show ¬ (H < qPl s + 1 + n ∨ (all ≤ P.2.2 4 ∧ all ≤ H ∧ H < qPl s + 1 + all)) by omega)]
        exact ⟨_, rfl, Lc _, Tnp, FZ_40 _⟩
      · rw [if_neg (fun x => b ((zN_lt (by omega) (by omega)).mp x))]
        by_cases c : H < all
        · rw [if_pos ((zN_lt (by omega) (by omega)).mpr c), bnd, if_neg ea, if_pos rfl, if_neg (show ¬ (H < qPl s + 1 + n ∨ (all ≤ P.2.2 4 ∧ all ≤ H ∧ H < qPl s + 1 + all)) by omega)]
          exact ⟨_, rfl, Lc _, Tnp, FZ_40 _⟩
        · rw [if_neg (fun x => c ((zN_lt (by omega) (by omega)).mp x)), bnd, if_neg ea, if_neg (show ¬ (1 : Int32) = 0 by decide)]
          by_cases d : H < qPl s + 1 + all
          · rw [if_neg (fun x => (e4 all hall).mp x d), if_pos (show (H < qPl s + 1 + n ∨ (all ≤ P.2.2 4 ∧ all ≤ H ∧ H < qPl s + 1 + all)) by omega)]
            exact ⟨_, rfl, Lc _, Tcl, FZ_40 _⟩
          · rw [if_pos ((e4 all hall).mpr d), if_neg (show ¬ (H < qPl s + 1 + n ∨ (all ≤ P.2.2 4 ∧ all ≤ H ∧ H < qPl s + 1 + all)) by omega)]
            exact ⟨_, rfl, Lc _, Tnp, FZ_40 _⟩


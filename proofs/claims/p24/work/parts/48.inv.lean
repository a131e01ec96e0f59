def cpD (d : Nat) : Nat := if d = 1 ∨ d = 4 then 480 else 24
/-- a layout's shape; what is its own, or not yet made -/
def LJ (Q : Nat → Prop) (σ : St) (t : Nat) : Prop := (t + 5 ≤ hpN σ ∧ ∀ a, hpN σ ≤ a → Q a) ∧ hpK σ t = 1 ∧ LA Q σ t 32 1 18 480 6 ∧ LA Q σ t 33 2 15 24 3 ∧ LA Q σ t 34 3 19 24 7 ∧ LA Q σ t 35 4 16 480 4
def OwN (σ : St) (t a : Nat) : Prop := (∃ d i, 1 ≤ d ∧ d ≤ 4 ∧ i < cpD d ∧ hpB σ (t + d) i = some a) ∨ hpN σ ≤ a
theorem LI_of {Q : Nat → Prop} {σ : St} {t : Nat} (h : LJ Q σ t) (h1 : hpC σ + pC σ t ≤ NX) (h2 : hpS σ + pS σ t ≤ SX) : LI Q (hpC σ + pC σ t) (hpS σ + pS σ t) σ t := ⟨⟨h1, h2, rfl, rfl⟩, h⟩
theorem LJ_of {Q : Nat → Prop} {C S : Nat} {σ : St} {t : Nat} (h : LI Q C S σ t) : LJ Q σ t := h.2
theorem LA_Q {Q Q' : Nat → Prop} {σ : St} {t f d k n c : Nat} (h : LA Q σ t f d k n c) (hq : ∀ i a, i < n → hpB σ (t + d) i = some a → Q' a) : LA Q' σ t f d k n c := by
  obtain ⟨h1, h2, h3, h4, h5⟩ := h
  exact ⟨h1, h2, h3, fun i a hi ha => ⟨(h4 i a hi ha).1, (h4 i a hi ha).2.1, hq i a hi ha⟩, h5⟩
theorem LJ_own {Q : Nat → Prop} {σ : St} {t : Nat} (h : LJ Q σ t) : LJ (OwN σ t) σ t := by
  obtain ⟨⟨n1, n2⟩, k, a1, a2, a3, a4⟩ := h
  exact ⟨⟨n1, fun a ha => Or.inr ha⟩, k, LA_Q a1 (fun i a hi ha => Or.inl ⟨1, i, by decide, by decide, hi, ha⟩), LA_Q a2 (fun i a hi ha => Or.inl ⟨2, i, by decide, by decide, hi, ha⟩), LA_Q a3 (fun i a hi ha => Or.inl ⟨3, i, by decide, by decide, hi, ha⟩), LA_Q a4 (fun i a hi ha => Or.inl ⟨4, i, by decide, by decide, hi, ha⟩)⟩
theorem LJ_T {Q : Nat → Prop} {σ : St} {t : Nat} (h : LJ Q σ t) : LJ (fun _ => True) σ t := by
  obtain ⟨⟨n1, n2⟩, k, a1, a2, a3, a4⟩ := h
  exact ⟨⟨n1, fun _ _ => trivial⟩, k, LA_Q a1 (fun _ _ _ _ => trivial), LA_Q a2 (fun _ _ _ _ => trivial), LA_Q a3 (fun _ _ _ _ => trivial), LA_Q a4 (fun _ _ _ _ => trivial)⟩
theorem LJ_ow {Q : Nat → Prop} {σ : St} {t a d i : Nat} (h : LJ Q σ t) (h1 : 1 ≤ d) (h4 : d ≤ 4) (hi : i < cpD d) (hb : hpB σ (t + d) i = some a) : a < hpN σ ∧ Q a := by
  obtain ⟨⟨n1, n2⟩, k, a1, a2, a3, a4⟩ := h
  rcases (show d = 1 ∨ d = 2 ∨ d = 3 ∨ d = 4 by omega) with rfl | rfl | rfl | rfl
  · exact (a1.2.2.2.1 i a hi hb).2
  · exact (a2.2.2.2.1 i a hi hb).2
  · exact (a3.2.2.2.1 i a hi hb).2
  · exact (a4.2.2.2.1 i a hi hb).2
theorem LA_GZ {Q : Nat → Prop} {ok : Nat → Nat → Prop} {okA okB : Nat → Prop} {σ τ : St} {t f d k n c : Nat} (h : LA Q σ t f d k n c) (g : GZ ok okA okB σ τ) (ht : t + d < hpN σ) (hB : ¬ okB (t + d)) : LA Q τ t f d k n c := by
  obtain ⟨h1, h2, h3, h4, h5⟩ := h
  obtain ⟨a1, a2, a3, a4, a5, a6, a7⟩ := g.2.1 t (by omega)
  obtain ⟨b1, b2, b3, b4, b5, b6, b7⟩ := g.2.1 (t + d) ht
  refine ⟨(a3 f).trans h1, b1.trans h2, b2.trans h3, fun i a hi ha => ?_, fun i j a hi hj ha hb => ?_⟩
  · rw [b6 i hB] at ha
    obtain ⟨c1, c2, c3⟩ := h4 i a hi ha
    exact ⟨(g.2.1 a c2).1.trans c1, Nat.lt_of_lt_of_le c2 g.1, c3⟩
  · rw [b6 i hB] at ha; rw [b6 j hB] at hb; exact h5 i j a hi hj ha hb
theorem LJ_GZ {ok : Nat → Nat → Prop} {okA okB : Nat → Prop} {σ τ : St} {t : Nat} (h : LJ (fun _ => True) σ t) (g : GZ ok okA okB σ τ) (hB : ∀ d, 1 ≤ d → d ≤ 4 → ¬ okB (t + d)) : LJ (fun _ => True) τ t ∧ pC τ t = pC σ t ∧ pS τ t = pS σ t := by
  obtain ⟨⟨n1, n2⟩, k, a1, a2, a3, a4⟩ := h
  have eB : ∀ d, 1 ≤ d → d ≤ 4 → ∀ j, hpB τ (t + d) j = hpB σ (t + d) j := fun d h1 h2 j => (g.2.1 (t + d) (by omega)).2.2.2.2.2.1 j (hB d h1 h2)
  refine ⟨⟨⟨Nat.le_trans n1 g.1, fun _ _ => trivial⟩, (g.2.1 t (by omega)).1.trans k, LA_GZ a1 g (by omega) (hB 1 (by decide) (by decide)), LA_GZ a2 g (by omega) (hB 2 (by decide) (by decide)), LA_GZ a3 g (by omega) (hB 3 (by decide) (by decide)), LA_GZ a4 g (by omega) (hB 4 (by decide) (by decide))⟩, ?_, ?_⟩
  · unfold pC
    rw [cnN_c 480 (fun i _ => eB 1 (by decide) (by decide) i), cnN_c 24 (fun i _ => eB 2 (by decide) (by decide) i), cnN_c 24 (fun i _ => eB 3 (by decide) (by decide) i), cnN_c 480 (fun i _ => eB 4 (by decide) (by decide) i)]
  · unfold pS
    rw [cnN_c 480 (fun i _ => eB 1 (by decide) (by decide) i), cnN_c 24 (fun i _ => eB 2 (by decide) (by decide) i), cnN_c 24 (fun i _ => eB 3 (by decide) (by decide) i), cnN_c 480 (fun i _ => eB 4 (by decide) (by decide) i)]
/-- what a layout says -/
def LC (σ : St) (t : Nat) (P : PoT) (W H : Nat) : Prop := RoL σ t (layA P W P.2.1) (shA P W P.2.1) ∧ hpI σ 39 t = zI P.2.1 ∧ SLx σ t P W P.2.1 ∧ ZL σ t P W P.2.1 P.2.1 ∧ PQ σ t H (XR (layA P W P.2.1)) (pagQ P W H P.2.1) (layA P W P.2.1).1 ∧ (hpI σ 38 t = zI (pgN P W H) ∧ pgN P W H ≤ 480) ∧ ∀ p, p < pgN P W H → ∃ a, hpB σ (t + 4) p = some a ∧ hpI σ 132 a = zI (mkS P W (pagQ P W H P.2.1) p)
theorem LC_of {Q : Nat → Prop} {C S : Nat} {σ : St} {t : Nat} {P : PoT} {W H : Nat} (h : LO Q C S σ t P W H) : LC σ t P W H := ⟨h.1.2.1, h.1.2.2.1, h.1.2.2.2.1, h.1.2.2.2.2, h.2.1, h.2.2.1, h.2.2.2⟩
theorem LO_of {Q : Nat → Prop} {C S : Nat} {σ : St} {t : Nat} {P : PoT} {W H : Nat} (hl : LI Q C S σ t) (h : LC σ t P W H) : LO Q C S σ t P W H := ⟨⟨hl, h.1, h.2.1, h.2.2.1, h.2.2.2.1⟩, h.2.2.2.2.1, h.2.2.2.2.2.1, h.2.2.2.2.2.2⟩
theorem LC_tr {σ τ : St} {t : Nat} {P : PoT} {W H : Nat} (ho : okP P) (h : LC σ t P W H) (e1 : ∀ f, 36 ≤ f → f ≤ 40 → hpI τ f t = hpI σ f t) (e2 : ∀ d j a, 1 ≤ d → d ≤ 4 → hpB σ (t + d) j = some a → hpB τ (t + d) j = some a) (e3 : ∀ d i a f, 1 ≤ d → d ≤ 4 → i < cpD d → hpB σ (t + d) i = some a → 96 ≤ f → f < 256 → hpI τ f a = hpI σ f a) : LC τ t P W H := by
  obtain ⟨h1, h2, h3, h4, h5, ⟨h6, h7⟩, h8⟩ := h
  have h24 := ho.1
  have h480 := h1.2.1
  have hz := (szN_le P P.2.1).1
  refine ⟨⟨(e1 36 (by decide) (by decide)).trans h1.1, h480, fun i hi => ?_, h1.2.2.2⟩, (e1 39 (by decide) (by decide)).trans h2, fun i hi => ?_, ⟨(e1 37 (by decide) (by decide)).trans h4.1, fun s hs => ?_⟩, ?_, ⟨(e1 38 (by decide) (by decide)).trans h6, h7⟩, fun p hp => ?_⟩
  · obtain ⟨a, a1, a2⟩ := h1.2.2.1 i hi
    have ee := fun f x y => e3 1 i a f (by decide) (by decide) (show i < 480 by omega) a1 x y
    obtain ⟨c1, c2, c3, c4, c5, c6, c7⟩ := a2
    exact ⟨a, e2 1 i a (by decide) (by decide) a1, (ee 192 (by decide) (by decide)).trans c1, (ee 193 (by decide) (by decide)).trans c2, (ee 196 (by decide) (by decide)).trans c3, (ee 197 (by decide) (by decide)).trans c4, (ee 198 (by decide) (by decide)).trans c5, (ee 199 (by decide) (by decide)).trans c6, (ee 200 (by decide) (by decide)).trans c7⟩
  · obtain ⟨a, a1, ⟨c1, c2, c3, c4⟩, c5⟩ := h3 i hi
    have ee := fun f x y => e3 2 i a f (by decide) (by decide) (show i < 24 by omega) a1 x y
    exact ⟨a, e2 2 i a (by decide) (by decide) a1, ⟨(ee 96 (by decide) (by decide)).trans c1, (ee 97 (by decide) (by decide)).trans c2, (ee 98 (by decide) (by decide)).trans c3, (ee 99 (by decide) (by decide)).trans c4⟩, (ee 100 (by decide) (by decide)).trans c5⟩
  · obtain ⟨a, a1, c1, c2, c3⟩ := h4.2 s hs
    have ee := fun f x y => e3 3 s a f (by decide) (by decide) (show s < 24 by omega) a1 x y
    exact ⟨a, e2 3 s a (by decide) (by decide) a1, (ee 224 (by decide) (by decide)).trans c1, (ee 225 (by decide) (by decide)).trans c2, (ee 226 (by decide) (by decide)).trans c3⟩
  · obtain ⟨pc, np, p1, p2, ⟨q1, q2, q3, q4, q5⟩, p3⟩ := h5
    refine ⟨pc, np, (e1 38 (by decide) (by decide)).trans p1, (e1 40 (by decide) (by decide)).trans p2, ⟨fun p hp => ?_, fun i hi => ?_, q3, q4, q5⟩, p3⟩
    · obtain ⟨a, a1, c1, c2, c3, c4⟩ := q1 p hp
      have ee := fun f x y => e3 4 p a f (by decide) (by decide) (show p < 480 by omega) a1 x y
      exact ⟨a, e2 4 p a (by decide) (by decide) a1, (ee 128 (by decide) (by decide)).trans c1, (ee 129 (by decide) (by decide)).trans c2, (ee 130 (by decide) (by decide)).trans c3, (ee 131 (by decide) (by decide)).trans c4⟩
    · obtain ⟨a, a1, c1, c2⟩ := q2 i hi
      have ee := fun f x y => e3 1 i a f (by decide) (by decide) (show i < 480 by omega) a1 x y
      exact ⟨a, e2 1 i a (by decide) (by decide) a1, (ee 194 (by decide) (by decide)).trans c1, (ee 195 (by decide) (by decide)).trans c2⟩
  · obtain ⟨a, a1, c1⟩ := h8 p hp
    exact ⟨a, e2 4 p a (by decide) (by decide) a1, (e3 4 p a 132 (by decide) (by decide) (show p < 480 by omega) a1 (by decide) (by decide)).trans c1⟩
/-- two layouts share no object -/
def Dj (σ : St) (t u : Nat) : Prop := ∀ a d i e j, 1 ≤ d → d ≤ 4 → 1 ≤ e → e ≤ 4 → i < cpD d → j < cpD e → hpB σ (t + d) i = some a → hpB σ (u + e) j = some a → False
/-- what a layout's calls may change -/
def okLy (σ : St) (t f a : Nat) : Prop := (a = t ∧ 36 ≤ f ∧ f ≤ 40) ∨ (OwN σ t a ∧ ((96 ≤ f ∧ f < 160) ∨ (192 ≤ f ∧ f < 256)))
def okLB (t a : Nat) : Prop := t + 1 ≤ a ∧ a ≤ t + 4
theorem bk_L {σ0 σ τ : St} {t : Nat} (h : FZ (okBk (OwN σ0 t) t) (oBk t) σ τ) : FZ (okLy σ0 t) (okLB t) σ τ := FZ_mono h (fun f a x => by
  rcases x with ⟨x1, x2⟩ | ⟨x1, x2⟩
  · exact Or.inl ⟨x1, by omega, by omega⟩
  · exact Or.inr ⟨x1, by omega⟩) (fun a x => by unfold oBk at x; unfold okLB; omega)
theorem pg_L {σ0 σ τ : St} {t : Nat} (h : FZ (okPg (OwN σ0 t) t) (oB t 4) σ τ) : FZ (okLy σ0 t) (okLB t) σ τ := FZ_mono h (fun f a x => by
  rcases x with ⟨x1, x2⟩ | ⟨x1, x2⟩
  · exact Or.inl ⟨x1, by omega, by omega⟩
  · exact Or.inr ⟨x1, by omega⟩) (fun a x => by unfold oB at x; unfold okLB; omega)
/-- a layout breaks the lines -/
theorem l_break {σ : St} {t p W : Nat} {P : PoT} (ho : okP P) (hW : 12 ≤ W) (hW2 : W ≤ 60) (hp : CP σ p P) (h : LJ (fun _ => True) σ t) (h1 : hpC σ + pC σ t ≤ NX) (h2 : hpS σ + pS σ t ≤ SX) :
    ∃ τ, f_X1_breakLines σ t (some p) (zI W) = some τ ∧ BR (OwN σ t) (hpC σ + pC σ t) (hpS σ + pS σ t) τ t P W ∧ FZ (okLy σ t) (okLB t) σ τ := by
  obtain ⟨τ, a1, a2, a3⟩ := c_breakLines ho hW hW2 hp (LI_of (LJ_own h) h1 h2)
  exact ⟨τ, a1, a2, bk_L a3⟩
/-- and lays pages -/
theorem l_pages {σ0 σ : St} {t W H C S : Nat} {P : PoT} (ho : okP P) (hW : 12 ≤ W) (hW2 : W ≤ 60) (hH : H ≤ 30) (hH4 : 4 ≤ H) (h : BR (OwN σ0 t) C S σ t P W) :
    ∃ τ, f_X1_putOnPages σ t (zI H) (zI (P.2.2 4)) = some τ ∧ LO (OwN σ0 t) C S τ t P W H ∧ FZ (okLy σ0 t) (okLB t) σ τ := by
  obtain ⟨τ, a1, a2, a3⟩ := c_putOnPages ho hW hW2 hH hH4 h
  exact ⟨τ, a1, a2, pg_L a3⟩
theorem l_otherJ {σ τ : St} {t u : Nat} (g : FZ (okLy σ t) (okLB t) σ τ) (hu : LJ (fun _ => True) σ u) (htu : t + 5 ≤ u ∨ u + 5 ≤ t) : LJ (fun _ => True) τ u ∧ pC τ u = pC σ u ∧ pS τ u = pS σ u :=
  LJ_GZ hu (GZ_FZ g) (fun d h1 h2 x => by unfold okLB at x; omega)
theorem l_dj {C S : Nat} {σ τ : St} {t u : Nat} (g : FZ (okLy σ t) (okLB t) σ τ) (hl : LI (OwN σ t) C S τ t) (hu : LJ (fun _ => True) σ u) (hd : Dj σ t u) (htu : t + 5 ≤ u ∨ u + 5 ≤ t) : Dj τ t u := by
  intro a d i e j h1 h2 h3 h4 h5 h6 h7 h8
  have hN := hu.1.1
  have e8 : hpB τ (u + e) j = hpB σ (u + e) j := (g.2.1 (u + e) (by omega)).2.2.2.2.2.2.1 j (fun x => by unfold okLB at x; omega)
  rw [e8] at h8
  have hq := (LJ_ow (LJ_of hl) h1 h2 h5 h7).2
  have ha := (LJ_ow hu h3 h4 h6 h8).1
  rcases hq with ⟨d2, i2, y1, y2, y3, y4⟩ | y
  · exact hd a d2 i2 e j y1 y2 h3 h4 y3 h6 y4 h8
  · omega
theorem Dj_GZ {ok : Nat → Nat → Prop} {okA okB : Nat → Prop} {σ τ : St} {t u : Nat} (h : Dj σ t u) (g : GZ ok okA okB σ τ) (ht : t + 5 ≤ hpN σ) (hu : u + 5 ≤ hpN σ) (h1 : ∀ d, 1 ≤ d → d ≤ 4 → ¬ okB (t + d)) (h2 : ∀ d, 1 ≤ d → d ≤ 4 → ¬ okB (u + d)) : Dj τ t u := by
  intro a d i e j x1 x2 x3 x4 x5 x6 x7 x8
  rw [(g.2.1 (t + d) (by omega)).2.2.2.2.2.1 i (h1 d x1 x2)] at x7
  rw [(g.2.1 (u + e) (by omega)).2.2.2.2.2.1 j (h2 e x3 x4)] at x8
  exact h a d i e j x1 x2 x3 x4 x5 x6 x7 x8


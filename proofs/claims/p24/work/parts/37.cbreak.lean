def okBk (Q : Nat → Prop) (t f a : Nat) : Prop := (a = t ∧ (f = 36 ∨ f = 37 ∨ f = 39)) ∨ (Q a ∧ ((96 ≤ f ∧ f < 128) ∨ (192 ≤ f ∧ f < 256)))
def oBk (t a : Nat) : Prop := a = t + 1 ∨ a = t + 2 ∨ a = t + 3
theorem bk_R {Q : Nat → Prop} {t : Nat} {σ τ : St} (h : FZ (okR Q t) (oB t 1) σ τ) : FZ (okBk Q t) (oBk t) σ τ := FZ_mono h (fun f a x => by rcases x with ⟨a, b⟩ | ⟨a, b, c⟩; exact Or.inl ⟨b, Or.inl a⟩; exact Or.inr ⟨c, Or.inr ⟨a, by omega⟩⟩) (fun a x => Or.inl x)
theorem bk_S {Q : Nat → Prop} {t : Nat} {σ τ : St} (h : FZ (okSp Q t) (oB t 2) σ τ) : FZ (okBk Q t) (oBk t) σ τ := FZ_mono h (fun f a x => by rcases x with ⟨a, b⟩ | ⟨a, b, c⟩; exact Or.inl ⟨b, Or.inr (Or.inr a)⟩; exact Or.inr ⟨c, Or.inl ⟨a, b⟩⟩) (fun a x => Or.inr (Or.inl x))
theorem bk_Z {Q : Nat → Prop} {t : Nat} {σ τ : St} (h : FZ (okZ Q t) (oB t 3) σ τ) : FZ (okBk Q t) (oBk t) σ τ := FZ_mono h (fun f a x => by rcases x with ⟨a, b⟩ | ⟨a, b, c⟩; exact Or.inl ⟨b, Or.inr (Or.inl a)⟩; exact Or.inr ⟨c, Or.inr ⟨by omega, b⟩⟩) (fun a x => Or.inr (Or.inr x))
theorem CP_bk {Q : Nat → Prop} {t : Nat} {σ τ : St} {p : Nat} {P : PoT} (h : CP σ p P) (g : FZ (okBk Q t) (oBk t) σ τ) : CP τ p P :=
  CP_FZ h g (fun f a hf x => by unfold okBk at x; omega) (fun f a h1 h2 x => by unfold okBk at x; omega) (fun x => by unfold okBk at x; omega)
/-- the class has broken the first k lines -/
def BL (Q : Nat → Prop) (C S : Nat) (σ : St) (t : Nat) (P : PoT) (W k : Nat) : Prop := LI Q C S σ t ∧ RoL σ t (layA P W k) (shA P W k) ∧ hpI σ 39 t = zI k ∧ SLx σ t P W k ∧ ZL σ t P W k k
theorem sf_lt (P : PoT) : ∀ k s, s < szN P k → sfA P k s < k
  | 0, s, h => absurd h (Nat.not_lt_zero s)
  | k + 1, s, h => by
    rw [sfA]
    split
    · omega
    · rename_i x
      rw [szN] at h
      split at h
      · rename_i y
        have ne : s ≠ szN P k := fun e => x ⟨y, e⟩
        have := sf_lt P k s (by omega)
        omega
      · have := sf_lt P k s h; omega
/-- the stanza of line k -/
theorem c_stz {Q : Nat → Prop} {C S : Nat} {σ : St} {t W k : Nat} {P : PoT} (ho : okP P) (hk : k < P.2.1) (h : BL Q C S σ t P W k) :
    ∃ z τ, (if (if bgS P k = true then (1 : Int32) else 0) = 0 then
          (dn σ 1 (some t)).bind fun a14 =>
          (f_X1_lastStanza σ a14 (zI k)).bind fun q16 =>
          some (q16.1, q16.2)
        else
          (dn σ 1 (some t)).bind fun a18 =>
          (f_X1_addStanza σ a18 (zI k)).bind fun q20 =>
          some (q20.1, q20.2)) = some (some z, τ) ∧ hpB τ (t + 3) (szO P k) = some z ∧ LI Q C S τ t ∧ RoL τ t (layA P W k) (shA P W k) ∧ hpI τ 39 t = zI k ∧ SLx τ t P W k ∧ ZL τ t P W (k + 1) k ∧ FZ (okBk Q t) (oBk t) σ τ := by
  obtain ⟨h1, h2, h3, h4, h5⟩ := h
  have h24 := ho.1
  have hN := h1.2.1.1
  have hz := szN_le P k
  cases hb : bgS P k with
  | false =>
    have e1 : szN P (k + 1) = szN P k := by rw [szN, if_neg (by simp [hb])]
    have e2 : szO P k = szN P k - 1 := by rw [szO, e1]
    have hk0 : 0 < k := by
      by_cases z : k = 0
      · subst z; simp [bgS] at hb
      · omega
    obtain ⟨z, z1, z2⟩ := h5.2 (szN P k - 1) (by omega)
    refine ⟨z, σ, ?_, by rw [e2]; exact z1, h1, h2, h3, h4, ⟨by rw [e1]; exact h5.1, fun s hs => ?_⟩, FZ_refl _ _ _⟩
    · rw [if_pos (show (if false = true then (1 : Int32) else 0) = 0 from rfl), dn_eq h1.2.2.1, bnd, f_X1_lastStanza, h5.1, zN_sub1 (by omega), c_stanzaAtN h1 h5.1 (by omega) (by omega), z1, bnd, if_neg (by simp), bnd]
    · obtain ⟨y, y1, y2⟩ := h5.2 s (by omega)
      refine ⟨y, y1, ?_⟩
      have e3 : sfA P (k + 1) s = sfA P k s := by rw [sfA, if_neg (by simp [hb])]
      unfold ZW
      rw [e3]; exact y2
  | true =>
    have e1 : szN P (k + 1) = szN P k + 1 := by rw [szN, if_pos hb]
    have e2 : szO P k = szN P k := by rw [szO, e1]; omega
    obtain ⟨z, τ, g1, g2, g3, g4, g5, g6, g7, g8, g9⟩ := c_addStanza (k := k) h1 h5.1 (by omega) h2.1
    have n36 : ¬ okZ Q t 36 t := fun x => by unfold okZ at x; omega
    have n39 : ¬ okZ Q t 39 t := fun x => by unfold okZ at x; omega
    refine ⟨z, τ, ?_, by rw [e2]; exact g2, g3, RoL_FZ h1 h2 g4 n36 (fun a f x1 x2 _ _ x => by unfold okZ at x; omega), (FZ_I g4 (by omega) n39).trans h3, SLx_FZ h1 h4 (by omega) g4 (fun f a x1 x2 x => by unfold okZ at x; omega), ⟨by rw [e1]; exact g5, fun s hs => ?_⟩, bk_Z g4⟩
    · rw [if_neg (show ¬ (if true = true then (1 : Int32) else 0) = 0 by decide), dn_eq h1.2.2.1, bnd, g1, bnd]
    · by_cases q : s = szN P k
      · subst q
        have e3 : sfA P (k + 1) (szN P k) = k := by rw [sfA, if_pos ⟨hb, rfl⟩]
        have e4 : srS P W k (szN P k) = 0 := by
          have : ∀ k s, szN P k ≤ s → srS P W k s = 0 := by
            intro k
            induction k with
            | zero => intro s _; rfl
            | succ k ih =>
              intro s hs
              have m1 := szN_mono P (show k ≤ k + 1 by omega)
              have m2 := szN_le P (k + 1)
              rw [srS, if_neg (by unfold szO; omega)]; exact ih s (by omega)
          exact this k _ (Nat.le_refl _)
        refine ⟨z, g2, ?_, ?_, ?_⟩
        · rw [e3]; exact g6
        · rw [e3]; exact g7
        · rw [e4]; exact g8
      · have hs' : s < szN P k := by omega
        obtain ⟨y, y1, y2, y3, y4⟩ := h5.2 s hs'
        have yb := Z_k h1 (by omega) y1
        have yne : y ≠ z := fun x => by
          subst x
          have := g3.2.2.2.2.2.1.2.2.2.2 s (szN P k) y (by omega) (by omega) (FZ_B g4 (by omega) y1) g2
          omega
        have e3 : sfA P (k + 1) s = sfA P k s := by rw [sfA, if_neg (fun x => q x.2)]
        refine ⟨y, FZ_B g4 (by omega) y1, ?_, ?_, ?_⟩
        · rw [g9 y _ yb.2.1 yne (by decide) (by decide), e3]; exact y2
        · rw [g9 y _ yb.2.1 yne (by decide) (by decide), e3]; exact y3
        · rw [g9 y _ yb.2.1 yne (by decide) (by decide)]; exact y4
/-- a stanza's and a span's rows are written -/
theorem c_endl {Q : Nat → Prop} {C S : Nat} {σ : St} {t W k z sp : Nat} {P : PoT} (ho : okP P) (hk : k < P.2.1) (hlt : (layA P W k).1 ≤ (layA P W (k + 1)).1) (h : LI Q C S σ t) (hr : RoL σ t (layA P W (k + 1)) (shA P W (k + 1))) (h39 : hpI σ 39 t = zI ((k + 1 : Nat) : Int)) (hs : SLx σ t P W k) (hz : ZL σ t P W (k + 1) k) (hzb : hpB σ (t + 3) (szO P k) = some z) (hsb : hpB σ (t + 2) k = some sp) (hsw : SPW σ sp P W k) :
    BL Q C S (stI (stI σ 100 sp (zI (lrS P W k))) 226 z (zI ((srS P W k (szO P k) + lrS P W k : Nat) : Int))) t P W (k + 1) ∧ FZ (okBk Q t) (oBk t) σ (stI (stI σ 100 sp (zI (lrS P W k))) 226 z (zI ((srS P W k (szO P k) + lrS P W k : Nat) : Int))) ∧ hpI σ 36 t - hpI σ 99 sp = zI (lrS P W k) ∧ hpI σ 226 z = zI (srS P W k (szO P k)) := by
  have h24 := ho.1
  have hN := h.2.1.1
  have hz1 := szN_le P (k + 1)
  have hzo : szO P k < szN P (k + 1) := by unfold szO; omega
  have kz := Z_k h (by omega) hzb
  have ks := SP_k h (by omega) hsb
  have i226 : hpI σ 226 z = zI (srS P W k (szO P k)) := by
    obtain ⟨y, y1, y2⟩ := hz.2 _ hzo
    rw [hzb] at y1; cases y1; exact y2.2.2
  refine ⟨⟨LI_stI (LI_stI h _ _ _) _ _ _, RoL_FZ h hr (ok := fun f a => f = 100 ∨ f = 226) (okB := fun _ => False) (FZ_stI (FZ_stI (FZ_refl _ _ _) 100 sp _ (Or.inl rfl)) 226 z _ (Or.inr rfl)) (by decide) (fun a f x1 x2 _ _ x => by omega), ?_, fun i hi => ?_, ?_, fun s hs' => ?_⟩, FZ_stI (FZ_stI (FZ_refl _ _ _) 100 sp _ (Or.inr ⟨ks.2.2, Or.inl ⟨by decide, by decide⟩⟩)) 226 z _ (Or.inr ⟨kz.2.2, Or.inr ⟨by decide, by decide⟩⟩), ?_, i226⟩
  · rw [hI_f (by decide), hI_f (by decide)]; exact h39
  · by_cases q : i = k
    · subst q
      refine ⟨sp, hsb, ?_, ?_⟩
      · obtain ⟨w1, w2, w3, w4⟩ := hsw
        refine ⟨?_, ?_, ?_, ?_⟩ <;> rw [hI_f (by decide), hI_f (by decide)] <;> assumption
      · rw [hI_f (by decide), hI_e]
    · obtain ⟨a, a1, a2, a3⟩ := hs i (by omega)
      have ne : a ≠ sp := fun x => by
        subst x
        have := h.2.2.2.2.1.2.2.2.2 i k a (by omega) (by omega) a1 hsb
        omega
      obtain ⟨w1, w2, w3, w4⟩ := a2
      refine ⟨a, a1, ⟨?_, ?_, ?_, ?_⟩, ?_⟩
      · rw [hI_f (by decide), hI_f (by decide)]; exact w1
      · rw [hI_f (by decide), hI_f (by decide)]; exact w2
      · rw [hI_f (by decide), hI_f (by decide)]; exact w3
      · rw [hI_f (by decide), hI_f (by decide)]; exact w4
      · rw [hI_f (by decide), hI_a ne]; exact a3
  · rw [hI_f (by decide), hI_f (by decide)]; exact hz.1
  · obtain ⟨y, y1, y2, y3, y4⟩ := hz.2 s hs'
    refine ⟨y, y1, ?_, ?_, ?_⟩
    · rw [hI_f (by decide), hI_f (by decide)]; exact y2
    · rw [hI_f (by decide), hI_f (by decide)]; exact y3
    · by_cases q : s = szO P k
      · subst q
        rw [hzb] at y1; cases y1
        rw [hI_e, srS, if_pos rfl]
      · have ne : y ≠ z := fun x => by
          subst x
          have := h.2.2.2.2.2.1.2.2.2.2 s (szO P k) y (by omega) (by omega) y1 hzb
          omega
        rw [hI_a ne, hI_f (by decide), y4, srS, if_neg (fun x => q x.symm)]
  · rw [hr.1, hsw.2.2.2, zN_sub hlt]; rfl
theorem c_break1 {Q : Nat → Prop} {C S t p W : Nat} {P : PoT} (ho : okP P) (hW : 12 ≤ W) (hW2 : W ≤ 60) : ∀ (d k : Nat) (σ : St) (f : Nat), k + d = P.2.1 → d < f → CP σ p P → BL Q C S σ t P W k →
    ∃ τ, LX1_breakLines_17 f t (some p) (zI W) (zI k) σ = some τ ∧ BL Q C S τ t P W P.2.1 ∧ FZ (okBk Q t) (oBk t) σ τ := by
  intro d
  have h24 := ho.1
  induction d with
  | zero =>
    intro k σ f hk hf hp h
    obtain ⟨f, rfl⟩ : ∃ f', f = f' + 1 := ⟨f - 1, by omega⟩
    have e : k = P.2.1 := by omega
    subst e
    refine ⟨σ, ?_, h, FZ_refl _ _ _⟩
    rw [LX1_breakLines_17, dn_eq hp.1.1, bnd, hp.2.1, if_pos ((zN_le (by omega) (by omega)).mpr (by omega))]
  | succ d ih =>
    intro k σ f hk hf hp h
    obtain ⟨f, rfl⟩ : ∃ f', f = f' + 1 := ⟨f - 1, by omega⟩
    have hk' : k < P.2.1 := by omega
    obtain ⟨o1, o2, o3, o4, o5, o6, o7⟩ := ho.2.1 k hk'
    obtain ⟨s1, s2, s3, s4, s5, s6, s7⟩ := ho.2.2
    have hmul : nSt (P.1 k) * P.2.2 2 ≤ 30 := Nat.le_trans (Nat.mul_le_mul o5 s5) (by omega)
    obtain ⟨y1, y2, y3⟩ := layA_ok ho hW hW2 k (by omega)
    have y3 := y3 hk'
    have hz1 := szN_le P (k + 1)
    obtain ⟨al, l1, l2, l3, l4⟩ := c_lineAtN hp hk'
    -- the stanza
    obtain ⟨z, τ1, a1, a2, a3, a4, a5, a6, a7, a8⟩ := c_stz ho hk' h
    have p1 := CP_bk hp a8
    have hN1 := a3.2.1.1
    have al1 : al < hpN τ1 := Nat.lt_of_lt_of_le l3 a8.1
    have c1 : CLn τ1 al (P.1 k) := CLn_FZ l4 a8 l3 (fun f a hf x => by unfold okBk at x; omega) (fun f a h1 h2 x => by unfold okBk at x; omega)
    have kz := Z_k a3 (show szO P k < 24 by unfold szO; omega) a2
    have z224 : hpI τ1 224 z = zI (sfA P (k + 1) (szO P k)) := by
      obtain ⟨y, x1, x2⟩ := a7.2 (szO P k) (by unfold szO; omega)
      rw [a2] at x1; cases x1; exact x2.1
    have eb : (if zI (k : Int) ≤ hpI τ1 224 z then some (0 : Int32) else some 1) = some (zI (((if bgS P k = true then 0 else 1 : Nat)) : Int)) := by
      have hlt := sf_lt P (k + 1) (szO P k) (by unfold szO; omega)
      rw [z224]
      cases hb : bgS P k with
      | true =>
        have e3 : sfA P (k + 1) (szO P k) = k := by
          rw [sfA, if_pos ⟨hb, by unfold szO; rw [szN, if_pos hb]; omega⟩]
        rw [e3, if_pos ((zN_le (by omega) (by omega)).mpr (Nat.le_refl _))]; rfl
      | false =>
        have e3 : sfA P (k + 1) (szO P k) = sfA P k (szO P k) := by rw [sfA, if_neg (by simp [hb])]
        have e4 : szN P (k + 1) = szN P k := by rw [szN, if_neg (by simp [hb])]
        have e5 := sf_lt P k (szO P k) (by unfold szO; omega)
        rw [e3, if_neg (fun x => by have := (zN_le (by omega) (by omega)).mp x; omega)]; rfl
    -- the span
    obtain ⟨sp, τ2, b1, b2, b3, b4, b5, b6, b7, b8, b9, b10⟩ := c_addSpan (b := if bgS P k = true then 0 else 1) a3 a5 (by omega) c1.1 al1 c1.2.2.2.1 o6 (by split <;> omega) a7.1 (by omega) a4.1 (c_lastNumber a3 a5 (by omega) a6)
    have p2 := CP_bk p1 (bk_S b4)
    have al2 : al < hpN τ2 := Nat.lt_of_lt_of_le al1 b4.1
    have c2 : CLn τ2 al (P.1 k) := CLn_FZ c1 b4 al1 (fun f a hf x => by unfold okSp at x; omega) (fun f a h1 h2 x => by unfold okSp at x; omega)
    have ks := SP_k b3 (show k < 24 by omega) b2
    have r2 : RoL τ2 t (layA P W k) (shA P W k) := RoL_FZ a3 a4 b4 (fun x => by unfold okSp at x; omega) (fun a f x1 x2 _ _ x => by unfold okSp at x; omega)
    have z2 : ZL τ2 t P W (k + 1) k := ZL_FZ a3 a7 (by omega) b4 (fun x => by unfold okSp at x; omega) (fun f a x1 x2 x => by unfold okSp at x; omega)
    have sl2 : SLx τ2 t P W k := fun i hi => by
      obtain ⟨a, x1, ⟨x2, x3, x4, x5⟩, x6⟩ := a6 i hi
      have ka := SP_k a3 (show i < 24 by omega) x1
      have x7 := FZ_B b4 (show t + 2 < hpN τ1 by omega) x1
      have ne : a ≠ sp := fun x => by
        subst x
        have := b3.2.2.2.2.1.2.2.2.2 i k a (by omega) (by omega) x7 b2
        omega
      exact ⟨a, x7, ⟨(b10 a 96 ka.2.1 ne (by decide) (by decide)).trans x2, (b10 a 97 ka.2.1 ne (by decide) (by decide)).trans x3, (b10 a 98 ka.2.1 ne (by decide) (by decide)).trans x4, (b10 a 99 ka.2.1 ne (by decide) (by decide)).trans x5⟩, (b10 a 100 ka.2.1 ne (by decide) (by decide)).trans x6⟩
    have ele : nHf (P.1 k) * (if bgS P k = true then 0 else 1) = if lnS P k = true then 1 else 0 := by
      cases hb : bgS P k with
      | true => simp [lnS, hb]
      | false =>
        rcases (show nHf (P.1 k) = 0 ∨ nHf (P.1 k) = 1 by omega) with x | x <;> simp [lnS, hb, x]
    rw [ele] at b6 b7
    have enu : (if (if lnS P k = true then 1 else 0) = 0 then nuP P k + 1 else nuP P k) = nuP P (k + 1) := by
      rw [nuP]; cases lnS P k <;> rfl
    rw [enu] at b7
    have sw2 : SPW τ2 sp P W k := ⟨b6, b7, b8, b9⟩
    have hnu := nuP_le P (k + 1)
    -- the first row
    obtain ⟨ro, τ3, d1, d2, d3, d4, d5⟩ := c_firstRow (k := k) (st := nSt (P.1 k)) (nu := nuP P (k + 1)) (le := if lnS P k = true then 1 else 0) b3 r2 (by omega) c2.1 c2.2.2.1 (by omega) p2 ks.1 ks.2.1 b6 (by split <;> omega) b7 (by omega) (by omega) (fun x => by
      have hk0 : 0 < k := by
        by_cases e : k = 0
        · subst e; exact absurd x (Nat.lt_irrefl 0)
        · omega
      have := (y2 hk0).2.2; omega) (fun x => by
      have hk0 : 0 < k := by
        by_cases e : k = 0
        · subst e; simp [lnS, bgS] at x
        · omega
      have := y2 hk0; omega) hW hW2
    have p3 := CP_bk p2 (bk_R d5)
    have al3 : al < hpN τ3 := Nat.lt_of_lt_of_le al2 d5.1
    have c3 : CLn τ3 al (P.1 k) := CLn_FZ c2 d5 al2 (fun f a hf x => by unfold okR at x; omega) (fun f a h1 h2 x => by unfold okR at x; omega)
    have e0 : min (if (if lnS P k = true then 1 else 0) = 1 then rCo (lastR (layA P W k)) + rLe (lastR (layA P W k)) + 1 else nSt (P.1 k) * P.2.2 2) (W - 6) = c0S P W k (layA P W k) := by
      unfold c0S; cases lnS P k <;> rfl
    have esh : (if (if lnS P k = true then 1 else 0) = 0 ∧ nuP P (k + 1) % 5 = 0 then nuP P (k + 1) else 0) = shK P k := by
      unfold shK; cases lnS P k <;> simp
    rw [e0, esh] at d4
    have d4' : RoL τ3 t (addR (layA P W k) (k, 0, c0S P W k (layA P W k), 0, 0, 0)) (shA P W (k + 1)) := d4
    obtain ⟨cl1, ⟨w, w1, w2, w3⟩, cl3, cl4, cl5⟩ := c3
    -- the words
    have eL : lastR (addR (layA P W k) (k, 0, c0S P W k (layA P W k), 0, 0, 0)) = (k, 0, c0S P W k (layA P W k), 0, 0, 0) := lastR_add _ _
    have elay : wordsS W (c1S P W k) (nE (P.1 k)) (nCnt (P.1 k)) 0 (addR (layA P W k) (k, 0, c0S P W k (layA P W k), 0, 0, 0)) = layA P W (k + 1) := rfl
    have hst := (o4.2.1 o2).1
    obtain ⟨τ4, f1, f2, f3, f4⟩ := c_words' (Q := Q) (C := C) (S := S) (t := t) (sh := shA P W (k + 1)) (W := W) (c1 := c1S P W k) (by unfold c1S; omega) hW2 (fun j hj => by have := stW_m (nE (P.1 k)) hj; omega) o3 (nCnt (P.1 k)) 0 _ ro τ3 FU (by omega) (by simp only [FU]; omega) w3 (by omega) d3 d4' (Nat.succ_pos _) d2 (by rw [eL]; show c0S P W k (layA P W k) + 6 ≤ W; unfold c0S; omega) (by rw [eL]; show k ≤ 100; omega) (by rw [eL]; exact Nat.zero_le _) (by rw [elay]; omega)
    rw [elay] at f3
    have g4 := FZ_trans (bk_R d5) (bk_R f4)
    have hN2 := b3.2.1.1
    have g4' : FZ (okR Q t) (oB t 1) τ2 τ4 := FZ_trans d5 f4
    have z4 : ZL τ4 t P W (k + 1) k := ZL_FZ b3 z2 (by omega) g4' (fun x => by unfold okR at x; omega) (fun f a x1 x2 x => by unfold okR at x; omega)
    have sl4 : SLx τ4 t P W k := SLx_FZ b3 sl2 (by omega) g4' (fun f a x1 x2 x => by unfold okR at x; omega)
    have sw4 : SPW τ4 sp P W k := SPW_FZ g4' ks.2.1 sw2 (fun f a x1 x2 x => by unfold okR at x; omega)
    have i39 : hpI τ4 39 t = zI ((k + 1 : Nat) : Int) := (FZ_I g4' (by omega) (fun x => by unfold okR at x; omega)).trans b5
    obtain ⟨m1, m2, m3, m4⟩ := c_endl ho hk' (by omega) f2 f3 i39 sl4 z4 (FZ_B g4' (by omega) (FZ_B b4 (by omega) a2)) (FZ_B g4' (by omega) b2) sw4
    have G : FZ (okBk Q t) (oBk t) σ (stI (stI τ4 100 sp (zI (lrS P W k))) 226 z (zI ((srS P W k (szO P k) + lrS P W k : Nat) : Int))) := FZ_trans a8 (FZ_trans (bk_S b4) (FZ_trans g4 m2))
    obtain ⟨τ, n1, n2, n3⟩ := ih (k + 1) _ f (by omega) (by omega) (CP_bk hp G) m1
    refine ⟨τ, ?_, n2, FZ_trans G n3⟩
    have k4 : hpK τ4 sp = 3 := (FZ_K g4' ks.2.1).trans ks.1
    have kz4 : hpK τ4 z = 7 := (FZ_K g4' (Nat.lt_of_lt_of_le kz.2.1 b4.1)).trans ((FZ_K b4 kz.2.1).trans kz.1)
    have kz5 : hpK (stI τ4 100 sp (zI (lrS P W k))) z = 7 := kz4
    have e226 : hpI (stI τ4 100 sp (zI (lrS P W k))) 226 z = zI (srS P W k (szO P k)) := by rw [hI_f (by decide)]; exact m4
    have e100 : hpI (stI τ4 100 sp (zI (lrS P W k))) 100 sp = zI (lrS P W k) := hI_e
    have w6 : zI (W : Int) - 6 = zI ((W - 6 : Nat) : Int) := zN_sub (b := 6) (by omega)
    have ec1 : jmin (zI (nSt (P.1 k)) * zI (P.2.2 2) + zI (P.2.2 3)) (zI W - 6) = zI (c1S P W k) := by
      rw [zN_mul, zN_add, w6, jmin_z _ _ (by omega) (by omega)]; rfl
    have f1' : LX1_putWords_9 FU t (some w) (zI (c1S P W k)) (zI W) (some ro) 0 0 τ3 = some τ4 := f1
    have st2 : f_X5_setting τ3 p 2 = some (zI (P.2.2 2)) := c_setting (i := 2) p3 (by decide)
    have st3 : f_X5_setting τ3 p 3 = some (zI (P.2.2 3)) := c_setting (i := 3) p3 (by decide)
    rw [LX1_breakLines_17, dn_eq hp.1.1, bnd, hp.2.1, if_neg (fun x => by have := (zN_le (by omega) (by omega)).mp x; omega), l1, bnd, if_neg (by simp), c_bg hp ho (by omega), bnd, a1, bnd, dn_eq kz.1, bnd, eb, bnd, dn_eq a3.2.2.1, bnd, b1, bnd, dn_eq b3.2.2.1, bnd, d1, bnd, dn_eq cl1, bnd, dn_eq p3.1.1, bnd, st2, bnd, st3, bnd, dn_eq d3.2.2.1, bnd, w2, cl3, ec1, f_X1_putWords, f1', bnd, bnd, dn_eq f2.2.2.1, bnd, dn_eq k4, bnd, m3, dn_eq kz5, bnd, e226, e100, zN_add, bnd, zN_add1]
    exact n1
theorem c_breakLines {Q : Nat → Prop} {C S t p W : Nat} {σ : St} {P : PoT} (ho : okP P) (hW : 12 ≤ W) (hW2 : W ≤ 60) (hp : CP σ p P) (h : LI Q C S σ t) :
    ∃ τ, f_X1_breakLines σ t (some p) (zI W) = some τ ∧ BL Q C S τ t P W P.2.1 ∧ FZ (okBk Q t) (oBk t) σ τ := by
  have g : FZ (okBk Q t) (oBk t) σ (stI (stI (stI σ 36 t 0) 39 t 0) 37 t 0) := FZ_stI (FZ_stI (FZ_stI (FZ_refl _ _ _) 36 t _ (Or.inl ⟨rfl, Or.inl rfl⟩)) 39 t _ (Or.inl ⟨rfl, Or.inr (Or.inr rfl)⟩)) 37 t _ (Or.inl ⟨rfl, Or.inr (Or.inl rfl)⟩)
  have b0 : BL Q C S (stI (stI (stI σ 36 t 0) 39 t 0) 37 t 0) t P W 0 := by
    refine ⟨LI_stI (LI_stI (LI_stI h _ _ _) _ _ _) _ _ _, ⟨?_, Nat.zero_le _, fun i hi => absurd hi (Nat.not_lt_zero i), fun i _ => rfl⟩, ?_, fun i hi => absurd hi (Nat.not_lt_zero i), ?_, fun s hs => absurd hs (Nat.not_lt_zero s)⟩
    · rw [hI_f (by decide), hI_f (by decide), hI_e]; rfl
    · rw [hI_f (by decide), hI_e]; rfl
    · rw [hI_e]; rfl
  obtain ⟨τ, n1, n2, n3⟩ := c_break1 ho hW hW2 P.2.1 0 _ FU (by omega) (by have := ho.1; simp only [FU]; omega) (CP_bk hp g) b0
  have n1' : LX1_breakLines_17 FU t (some p) (zI W) 0 (stI (stI (stI σ 36 t 0) 39 t 0) 37 t 0) = some τ := n1
  exact ⟨τ, by rw [f_X1_breakLines, n1', bnd], n2, FZ_trans g n3⟩


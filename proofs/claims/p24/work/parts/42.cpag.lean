/-- all rows of the stanza that line k begins -/
theorem c_putStanza {Q : Nat → Prop} {C S t W H k e z : Nat} {P : PoT} {σ : St} (ho : okP P) (hW : 12 ≤ W) (hW2 : W ≤ 60) (hH : H ≤ 30) (hH4 : 4 ≤ H) (hke : k < e) (hen : e ≤ P.2.1) (hb : bgS P k = true) (hno : ∀ j, k + 1 ≤ j → j < e → bgS P j = false) (h : BR Q C S σ t P W) (hzk : hpK σ z = 7) (hzn : z < hpN σ) (h225 : hpI σ 225 z = zI (layA P W k).1) (h226 : hpI σ 226 z = zI (((layA P W e).1 - (layA P W k).1 : Nat) : Int)) (hq : PQ σ t H (XR (layA P W P.2.1)) (headQ H (P.2.2 4) (lrS P W k) (srS P W P.2.1 (szO P k)) true (pagQ P W H k)) (layA P W k).1) :
    ∃ τ, f_X1_putStanza σ t (some z) (zI H) = some τ ∧ BR Q C S τ t P W ∧ PQ τ t H (XR (layA P W P.2.1)) (pagQ P W H e) (layA P W e).1 ∧ qE (pagQ P W H e) = false ∧ FZ (okPg Q t) (oB t 4) σ τ := by
  have h24 := ho.1
  have m1 := layA_mono P W (show k + 1 ≤ e by omega)
  have m2 := layA_lt P W k
  have m3 := (layA_ok ho hW hW2 e hen).1
  obtain ⟨τ1, a1, a2, a3, a4⟩ := c_line (f0 := (layA P W k).1) (all := (layA P W e).1 - (layA P W k).1) ho hW hW2 hH hH4 (show k < P.2.1 by omega) (by omega) (by omega) h hzk hzn h225 h226 hq (fun x => absurd x (Nat.lt_irrefl _)) (FU - ((layA P W e).1 - (layA P W k).1) + ((layA P W e).1 - (layA P W (k + 1)).1))
  rw [if_neg (Nat.lt_irrefl _)] at a3
  have ep : pagQ P W H (k + 1) = rowsQ H (lrS P W k) (layA P W k).1 (headQ H (P.2.2 4) (lrS P W k) (srS P W P.2.1 (szO P k)) true (pagQ P W H k)) := by
    show lineQ P W H k (pagQ P W H k) = _
    rw [lineQ, hb]
  rw [← ep] at a3
  have hE1 : qE (pagQ P W H (k + 1)) = false := by rw [ep]; exact qE_rows _ _ _ _ (by unfold lrS; omega)
  have z1 := (FZ_K a4 hzn).trans hzk
  have z2 := Nat.lt_of_lt_of_le hzn a4.1
  have z3 : hpI τ1 225 z = zI (layA P W k).1 := (FZ_I a4 hzn (fun x => by unfold okPg at x; omega)).trans h225
  have z4 : hpI τ1 226 z = zI (((layA P W e).1 - (layA P W k).1 : Nat) : Int) := (FZ_I a4 hzn (fun x => by unfold okPg at x; omega)).trans h226
  obtain ⟨τ, b1, b2, b3, b4, b5⟩ := c_linesZ ho hW hW2 hH hH4 hen hno (e - (k + 1)) (k + 1) τ1 (FU - ((layA P W e).1 - (layA P W k).1)) (by omega) (by omega) a2 z1 z2 z3 z4 a3 hE1
  refine ⟨τ, ?_, b2, b3, b4, FZ_trans a4 b5⟩
  have w1 : hpI τ 225 z = zI (layA P W k).1 := (FZ_I b5 z2 (fun x => by unfold okPg at x; omega)).trans z3
  have w2 : hpI τ 226 z = zI (((layA P W e).1 - (layA P W k).1 : Nat) : Int) := (FZ_I b5 z2 (fun x => by unfold okPg at x; omega)).trans z4
  have w3 : hpK τ z = 7 := (FZ_K b5 z2).trans z1
  have a1' : LX1_putStanza_5 FU t (some z) (zI H) (zI (layA P W k).1) σ = LX1_putStanza_5 (FU - ((layA P W e).1 - (layA P W k).1)) t (some z) (zI H) (zI (layA P W e).1) τ := by
    have e1 : FU = FU - ((layA P W e).1 - (layA P W k).1) + ((layA P W e).1 - (layA P W (k + 1)).1) + lrS P W k := by unfold lrS; simp only [FU]; omega
    exact (congrArg (fun f => LX1_putStanza_5 f t (some z) (zI H) (zI (layA P W k).1) σ) e1).trans (a1.trans b1)
  obtain ⟨f, hf⟩ : ∃ f, FU - ((layA P W e).1 - (layA P W k).1) = f + 1 := ⟨FU - ((layA P W e).1 - (layA P W k).1) - 1, by simp only [FU]; omega⟩
  rw [hf, LX1_putStanza_5, dn_eq w3, bnd, w1, w2, zN_add, if_pos ((zN_le (by omega) (by omega)).mpr (by omega))] at a1'
  rw [f_X1_putStanza, dn_eq hzk, bnd, h225, a1', bnd]
theorem szN_bg {P : PoT} {k : Nat} (h : bgS P k = true) : szN P (k + 1) = szN P k + 1 := by rw [szN, if_pos h]
/-- all stanzas from that which line k begins -/
theorem c_pag1 {Q : Nat → Prop} {C S t W H : Nat} {P : PoT} (ho : okP P) (hW : 12 ≤ W) (hW2 : W ≤ 60) (hH : H ≤ 30) (hH4 : 4 ≤ H) : ∀ (d k : Nat) (σ : St) (f : Nat), P.2.1 - k ≤ d → k ≤ P.2.1 → (k < P.2.1 → bgS P k = true) → (0 < k → qE (pagQ P W H k) = false) → d < f → BR Q C S σ t P W → PQ σ t H (XR (layA P W P.2.1)) (pagQ P W H k) (layA P W k).1 →
    ∃ τ, LX1_putOnPages_12 f t (zI H) (zI (P.2.2 4)) (zI (szN P k)) σ = some τ ∧ BR Q C S τ t P W ∧ PQ τ t H (XR (layA P W P.2.1)) (pagQ P W H P.2.1) (layA P W P.2.1).1 ∧ FZ (okPg Q t) (oB t 4) σ τ := by
  intro d
  have h24 := ho.1
  obtain ⟨s1, s2, s3, s4, s5, s6, s7⟩ := ho.2.2
  have last : ∀ (k : Nat) (σ : St) (f : Nat), k = P.2.1 → 0 < f → BR Q C S σ t P W → PQ σ t H (XR (layA P W P.2.1)) (pagQ P W H k) (layA P W k).1 →
    ∃ τ, LX1_putOnPages_12 f t (zI H) (zI (P.2.2 4)) (zI (szN P k)) σ = some τ ∧ BR Q C S τ t P W ∧ PQ τ t H (XR (layA P W P.2.1)) (pagQ P W H P.2.1) (layA P W P.2.1).1 ∧ FZ (okPg Q t) (oB t 4) σ τ := by
    intro k σ f hk hf h hq
    subst hk
    obtain ⟨f, rfl⟩ : ∃ f', f = f' + 1 := ⟨f - 1, by omega⟩
    have hz := (szN_le P P.2.1).1
    refine ⟨σ, ?_, h, hq, FZ_refl _ _ _⟩
    rw [LX1_putOnPages_12, dn_eq h.1.2.2.1, bnd, h.2.2.2.2.1, if_pos ((zN_le (by omega) (by omega)).mpr (Nat.le_refl _))]
  induction d with
  | zero => intro k σ f h1 h2 h3 h4 h5 h hq; exact last k σ f (by omega) h5 h hq
  | succ d ih =>
    intro k σ f h1 h2 h3 h4 h5 h hq
    by_cases hkn : k = P.2.1
    · exact last k σ f hkn (by omega) h hq
    · obtain ⟨f, rfl⟩ : ∃ f', f = f' + 1 := ⟨f - 1, by omega⟩
      have hk : k < P.2.1 := by omega
      have hb := h3 hk
      obtain ⟨n1, n2, n3, n4⟩ := enF_ok P (P.2.1 - (k + 1)) (k + 1)
      generalize enF P (P.2.1 - (k + 1)) (k + 1) = e at *
      have hen : e ≤ P.2.1 := by omega
      obtain ⟨t1, t2, t3⟩ := stz_all (W := W) hb (show k < e by omega) n3 hen (fun x => n4 (by omega))
      have hz1 := szN_bg hb
      have hz2 := szN_mono P (show k + 1 ≤ P.2.1 by omega)
      have hz3 := (szN_le P P.2.1).1
      have hzo : szO P k = szN P k := by unfold szO; omega
      obtain ⟨z, z1, z2, z3, z4⟩ := h.2.2.2.2.2 (szN P k) (by omega)
      have kz := Z_k h.1 (show szN P k < 24 by omega) z1
      rw [t2] at z2 z3
      rw [t1] at z4
      have hN := h.1.2.1.1
      have m1 := layA_mono P W (show k + 1 ≤ e by omega)
      have m2 := layA_lt P W k
      have m3 := (layA_ok ho hW hW2 e hen).1
      have m4 := (layA_ok ho hW hW2 k (by omega)).2.2 hk
      obtain ⟨τ1, a1, a2, a3, a4⟩ := c_passOver (all := (layA P W e).1 - (layA P W k).1) ho h hk kz.1 z2 z4 (by omega) rfl (by unfold lrS; omega) (by unfold lrS; omega) hH hq (fun x => by
        by_cases y : k = 0
        · subst y; exact ⟨rfl, rfl⟩
        · rw [h4 (by omega)] at x; cases x) (by omega) (by omega)
      rw [← t1, ← hzo] at a3
      obtain ⟨τ2, b1, b2, b3, b4, b5⟩ := c_putStanza ho hW hW2 hH hH4 (show k < e by omega) hen hb n3 a2 ((FZ_K a4 kz.2.1).trans kz.1) (Nat.lt_of_lt_of_le kz.2.1 a4.1) ((FZ_I a4 kz.2.1 (fun x => by unfold okPg at x; omega)).trans z3) ((FZ_I a4 kz.2.1 (fun x => by unfold okPg at x; omega)).trans z4) a3
      obtain ⟨τ, c1, c2, c3, c4⟩ := ih e τ2 f (by omega) hen (fun x => n4 (by omega)) (fun _ => b4) (by omega) b2 b3
      refine ⟨τ, ?_, c2, c3, FZ_trans a4 (FZ_trans b5 c4)⟩
      rw [LX1_putOnPages_12, dn_eq h.1.2.2.1, bnd, h.2.2.2.2.1, if_neg (fun x => by have := (zN_le (by omega) (by omega)).mp x; omega), c_stanzaAtN h.1 h.2.2.2.2.1 (by omega) (by omega), z1, bnd, if_neg (by simp), a1, bnd, dn_eq a2.1.2.2.1, bnd, b1, bnd, bnd, zN_add1, ← t3]
      exact c1
/-- first row of page p when all is placed; whether page p is marked -/
def fpS (P : PoT) (W : Nat) (s : QS) (p : Nat) : Nat := (pgS (qF s) (qL s) (XR (layA P W P.2.1)) p (layA P W P.2.1).1).1
def mkS (P : PoT) (W : Nat) (s : QS) (p : Nat) : Nat := if p < qPg s ∧ (layA P W (sfA P P.2.1 (szO P (rLn ((layA P W P.2.1).2 (fpS P W s (p + 1))))))).1 = fpS P W s (p + 1) then 1 else 0
theorem pgS_lt {F L X : Nat → Nat} {p : Nat} : ∀ r, 0 < (pgS F L X p r).2.1 → (pgS F L X p r).1 < r ∧ F (pgS F L X p r).1 = p
  | 0, h => absurd h (Nat.lt_irrefl 0)
  | r + 1, h => by
    rw [pgS] at h ⊢
    by_cases q : F r = p
    · rw [if_pos q]
      by_cases z : (pgS F L X p r).2.1 = 0
      · show (if (pgS F L X p r).2.1 = 0 then r else (pgS F L X p r).1) < r + 1 ∧ F (if (pgS F L X p r).2.1 = 0 then r else (pgS F L X p r).1) = p
        rw [if_pos z]; exact ⟨by omega, q⟩
      · have := pgS_lt (F := F) (L := L) (X := X) (p := p) r (by omega)
        show (if (pgS F L X p r).2.1 = 0 then r else (pgS F L X p r).1) < r + 1 ∧ F (if (pgS F L X p r).2.1 = 0 then r else (pgS F L X p r).1) = p
        rw [if_neg z]; exact ⟨by omega, this.2⟩
    · rw [if_neg q] at h ⊢
      have := pgS_lt (F := F) (L := L) (X := X) (p := p) r h
      exact ⟨by omega, this.2⟩
/-- the class's layout, all of it -/
def pgN (P : PoT) (W H : Nat) : Nat := if P.2.1 = 0 then 0 else qPg (pagQ P W H P.2.1) + 1
def LO (Q : Nat → Prop) (C S : Nat) (σ : St) (t : Nat) (P : PoT) (W H : Nat) : Prop := BR Q C S σ t P W ∧ PQ σ t H (XR (layA P W P.2.1)) (pagQ P W H P.2.1) (layA P W P.2.1).1 ∧ (hpI σ 38 t = zI (pgN P W H) ∧ pgN P W H ≤ 480) ∧ ∀ p, p < pgN P W H → ∃ a, hpB σ (t + 4) p = some a ∧ hpI σ 132 a = zI (mkS P W (pagQ P W H P.2.1) p)
theorem PQ_132 {σ : St} {t H a : Nat} {X : Nat → Nat} {s : QS} {r : Nat} {v : Int32} (h : PQ σ t H X s r) : PQ (stI σ 132 a v) t H X s r := by
  obtain ⟨pc, np, p1, p2, ⟨q1, q2, q3, q4, q5⟩, p3, p4, p5, p6⟩ := h
  refine ⟨pc, np, by rw [hI_f (by decide)]; exact p1, by rw [hI_f (by decide)]; exact p2, ⟨fun p hp => ?_, fun i hi => ?_, q3, q4, q5⟩, p3, p4, p5, p6⟩
  · obtain ⟨a, a1, a2, a3, a4, a5⟩ := q1 p hp
    refine ⟨a, a1, ?_, ?_, ?_, ?_⟩ <;> rw [hI_f (by decide)] <;> assumption
  · obtain ⟨a, a1, a2, a3⟩ := q2 i hi
    refine ⟨a, a1, ?_, ?_⟩ <;> rw [hI_f (by decide)] <;> assumption
theorem pagQ_E (P : PoT) (W H : Nat) : ∀ k, 0 < k → qE (pagQ P W H k) = false
  | 0, h => absurd h (Nat.lt_irrefl 0)
  | k + 1, _ => qE_rows _ _ _ _ (by have := layA_lt P W k; unfold lrS; omega)
/-- whether page p begins with a stanza -/
theorem c_bws {Q : Nat → Prop} {C S t W H pc : Nat} {σ : St} {P : PoT} (ho : okP P) (h : BR Q C S σ t P W) (hq : PQ σ t H (XR (layA P W P.2.1)) (pagQ P W H P.2.1) (layA P W P.2.1).1) (hpc : hpI σ 38 t = zI pc) (hpc480 : pc ≤ 480) {p : Nat} (hp : p < pc) :
    ((f_X1_pageAt σ t (zI ((p + 1 : Nat) : Int))).bind fun q26 => f_X1_beginsWithStanza σ t q26) = some (zI (mkS P W (pagQ P W H P.2.1) p)) := by
  have h24 := ho.1
  have h480 := h.2.1.2.1
  obtain ⟨pc', np, p1, p2, ⟨q1, q2, q3, q4, q5⟩, p3, p4, p5, p6⟩ := hq
  have e0 : pc' = pc := (zN_eq (by omega) (by omega)).mp (p1.symm.trans hpc)
  subst e0
  have hn0 : 0 < P.2.1 := by
    by_cases z : P.2.1 = 0
    · have : (layA P W P.2.1).1 = 0 := by rw [z]; rfl
      omega
    · omega
  obtain ⟨e1, e2⟩ := p5 (pagQ_E P W H P.2.1 hn0)
  by_cases hl : p + 1 < pc'
  · obtain ⟨a, a1, a2, a3, a4, a5⟩ := q1 (p + 1) hl
    have ka := P_k h.1 (show p + 1 < 480 by omega) a1
    obtain ⟨f1, f2⟩ := pgS_lt _ (q5 (p + 1) hl)
    have ef : (pgS (qF (pagQ P W H P.2.1)) (qL (pagQ P W H P.2.1)) (XR (layA P W P.2.1)) (p + 1) (layA P W P.2.1).1).1 = fpS P W (pagQ P W H P.2.1) (p + 1) := rfl
    rw [ef] at a2 f1
    generalize hfp : fpS P W (pagQ P W H P.2.1) (p + 1) = fp at *
    obtain ⟨k, l1, l2, l3⟩ := layA_in P W P.2.1 fp f1
    obtain ⟨r1, r2⟩ := layA_row P W l1 l2 l3
    obtain ⟨ro, o1, o2⟩ := h.2.1.2.2.1 fp f1
    have ko := RoL_k h.1 (show fp < 480 by omega) o1
    obtain ⟨sp, b1, ⟨b2, b3, b4, b5⟩, b6⟩ := h.2.2.2.1 k l1
    have ks := SP_k h.1 (show k < 24 by omega) b1
    have hz1 := szN_le P (k + 1)
    have hz2 := szN_mono P (show k + 1 ≤ P.2.1 by omega)
    have hz3 := (szN_le P P.2.1).1
    have hzo : szO P k < szN P P.2.1 := by unfold szO; omega
    obtain ⟨z, z1, z2, z3, z4⟩ := h.2.2.2.2.2 (szO P k) hzo
    have kz := Z_k h.1 (show szO P k < 24 by omega) z1
    have hm : (layA P W (sfA P P.2.1 (szO P k))).1 ≤ 480 := Nat.le_trans (layA_mono P W (Nat.le_of_lt (sf_lt P P.2.1 (szO P k) hzo))) h480
    have em : mkS P W (pagQ P W H P.2.1) p = if (layA P W (sfA P P.2.1 (szO P k))).1 = fp then 1 else 0 := by
      unfold mkS
      rw [hfp, r1]
      by_cases y : (layA P W (sfA P P.2.1 (szO P k))).1 = fp
      · rw [if_pos ⟨by omega, y⟩, if_pos y]
      · rw [if_neg (fun x => y x.2), if_neg y]
    rw [c_pageAtN h.1 p1 hpc480 hl, a1, bnd, f_X1_beginsWithStanza, if_neg (by simp), dn_eq ka.1, bnd, a2, c_rowAtN h.1 h.2.1.1 h480 f1, o1, bnd, if_neg (by simp), dn_eq ko.1, bnd, o2.1, r1, c_spanAtN h.1 h.2.2.1 h24 l1, b1, bnd, bnd, if_neg (by simp), dn_eq ks.1, bnd, b4, c_stanzaAtN h.1 h.2.2.2.2.1 (by omega) hzo, z1, bnd, bnd, if_neg (by simp), dn_eq kz.1, bnd, z3, em]
    by_cases y : (layA P W (sfA P P.2.1 (szO P k))).1 = fp
    · rw [if_neg (fun x => x (by rw [y])), if_pos y]; rfl
    · rw [if_pos (fun x => y ((zN_eq (by omega) (by omega)).mp x)), if_neg y]; rfl
  · have em : mkS P W (pagQ P W H P.2.1) p = 0 := by unfold mkS; rw [if_neg (fun x => by have := x.1; omega)]
    rw [c_pageAt0 h.1 p1 hpc480 _ (by omega) (by omega) (by omega), bnd, f_X1_beginsWithStanza, if_pos rfl, em]; rfl
theorem c_mark {Q : Nat → Prop} {C S t W H pc : Nat} {P : PoT} (ho : okP P) (hpc480 : pc ≤ 480) : ∀ (d p : Nat) (σ : St) (f : Nat), p + d = pc → d < f → BR Q C S σ t P W → PQ σ t H (XR (layA P W P.2.1)) (pagQ P W H P.2.1) (layA P W P.2.1).1 → hpI σ 38 t = zI pc → (∀ i, i < p → ∃ a, hpB σ (t + 4) i = some a ∧ hpI σ 132 a = zI (mkS P W (pagQ P W H P.2.1) i)) →
    ∃ τ, LX1_putOnPages_55 f t (zI p) σ = some τ ∧ BR Q C S τ t P W ∧ PQ τ t H (XR (layA P W P.2.1)) (pagQ P W H P.2.1) (layA P W P.2.1).1 ∧ hpI τ 38 t = zI pc ∧ (∀ i, i < pc → ∃ a, hpB τ (t + 4) i = some a ∧ hpI τ 132 a = zI (mkS P W (pagQ P W H P.2.1) i)) ∧ FZ (okPg Q t) (oB t 4) σ τ := by
  intro d
  induction d with
  | zero =>
    intro p σ f h1 h2 h hq hpc hm
    obtain ⟨f, rfl⟩ : ∃ f', f = f' + 1 := ⟨f - 1, by omega⟩
    have e : p = pc := by omega
    subst e
    refine ⟨σ, ?_, h, hq, hpc, hm, FZ_refl _ _ _⟩
    rw [LX1_putOnPages_55, dn_eq h.1.2.2.1, bnd, hpc, if_pos ((zN_le (by omega) (by omega)).mpr (Nat.le_refl _))]
  | succ d ih =>
    intro p σ f h1 h2 h hq hpc hm
    obtain ⟨f, rfl⟩ : ∃ f', f = f' + 1 := ⟨f - 1, by omega⟩
    have hb := c_bws ho h hq hpc hpc480 (show p < pc by omega)
    obtain ⟨pc2, np, p1, p2, ⟨q1, q2, q3, q4, q5⟩, -⟩ := id hq
    have h480 := h.2.1.2.1
    have e2 : pc2 = pc := (zN_eq (by omega) (by omega)).mp (p1.symm.trans hpc)
    obtain ⟨a, a1, a2⟩ := q1 p (by omega)
    have ka := P_k h.1 (show p < 480 by omega) a1
    have g : FZ (okPg Q t) (oB t 4) σ (stI σ 132 a (zI (mkS P W (pagQ P W H P.2.1) p))) := FZ_stI (FZ_refl _ _ _) 132 a _ (Or.inr ⟨ka.2.2, Or.inr (Or.inr ⟨by decide, by decide⟩)⟩)
    obtain ⟨τ, b1, b2, b3, b4, b5, b6⟩ := ih (p + 1) (stI σ 132 a (zI (mkS P W (pagQ P W H P.2.1) p))) f (by omega) (by omega) (BR_FZ ho h g (LI_stI h.1 _ _ _)) (PQ_132 hq) (by rw [hI_f (by decide)]; exact hpc) (fun i hi => by
      by_cases q : i = p
      · subst q; exact ⟨a, B_I a1, hI_e⟩
      · obtain ⟨y, y1, y2⟩ := hm i (by omega)
        have ne : y ≠ a := fun x => by
          subst x; have := h.1.2.2.2.2.2.2.2.2.2.2 i p y (by omega) (by omega) y1 a1; omega
        exact ⟨y, B_I y1, by rw [hI_a ne]; exact y2⟩)
    refine ⟨τ, ?_, b2, b3, b4, b5, FZ_trans g b6⟩
    have hgz : gz (zI (mkS P W (pagQ P W H P.2.1) p)) = some (zI (mkS P W (pagQ P W H P.2.1) p)) := by
      unfold mkS; split <;> rfl
    have e3 : ∀ (F : Int32 → Option St), ((f_X1_pageAt σ t (zI ((p + 1 : Nat) : Int))).bind fun q26 => (f_X1_beginsWithStanza σ t q26).bind F) = F (zI (mkS P W (pagQ P W H P.2.1) p)) := fun F => by
      rw [← Option.bind_assoc, hb, bnd]
    rw [LX1_putOnPages_55, dn_eq h.1.2.2.1, bnd, hpc, if_neg (fun x => by have := (zN_le (by omega) (by omega)).mp x; omega), c_pageAtN h.1 hpc hpc480 (by omega), a1, bnd, if_neg (by simp), zN_add1, e3, dn_eq ka.1, bnd, hgz, bnd, bnd]
    exact b1
theorem c_putOnPages {Q : Nat → Prop} {C S t W H : Nat} {P : PoT} {σ : St} (ho : okP P) (hW : 12 ≤ W) (hW2 : W ≤ 60) (hH : H ≤ 30) (hH4 : 4 ≤ H) (h : BR Q C S σ t P W) :
    ∃ τ, f_X1_putOnPages σ t (zI H) (zI (P.2.2 4)) = some τ ∧ LO Q C S τ t P W H ∧ FZ (okPg Q t) (oB t 4) σ τ := by
  have h24 := ho.1
  have g0 : FZ (okPg Q t) (oB t 4) σ (stI (stI σ 38 t 0) 40 t 0) := FZ_stI (FZ_stI (FZ_refl _ _ _) 38 t _ (Or.inl ⟨rfl, Or.inl rfl⟩)) 40 t _ (Or.inl ⟨rfl, Or.inr rfl⟩)
  have b0 : BR Q C S (stI (stI σ 38 t 0) 40 t 0) t P W := BR_FZ ho h g0 (LI_stI (LI_stI h.1 _ _ _) _ _ _)
  have q0 : PQ (stI (stI σ 38 t 0) 40 t 0) t H (XR (layA P W P.2.1)) (pagQ P W H 0) (layA P W 0).1 := ⟨0, 0, by rw [hI_f (by decide), hI_e]; rfl, by rw [hI_e]; rfl, ⟨fun p hp => absurd hp (Nat.not_lt_zero p), fun i hi => absurd hi (Nat.not_lt_zero i), fun i hi => absurd hi (Nat.not_lt_zero i), Nat.le_refl _, fun p hp => absurd hp (Nat.not_lt_zero p)⟩, Nat.zero_le _, Nat.zero_le _, (by intro x; cases x), fun _ => ⟨rfl, rfl, Or.inr rfl⟩⟩
  obtain ⟨τ1, a1, a2, a3, a4⟩ := c_pag1 ho hW hW2 hH hH4 P.2.1 0 _ FU (by omega) (Nat.zero_le _) (fun _ => rfl) (fun x => absurd x (Nat.lt_irrefl 0)) (by simp only [FU]; omega) b0 q0
  obtain ⟨pc, np, p1, p2, p0, p3, p4, p5, p6⟩ := id a3
  have h480 := a2.2.1.2.1
  have hpc := p0.2.2.2.1
  obtain ⟨τ2, c1, c2, c3, c4, c5, c6⟩ := c_mark ho (show pc ≤ 480 by omega) pc 0 τ1 FU (by omega) (by simp only [FU]; omega) a2 a3 p1 (fun i hi => absurd hi (Nat.not_lt_zero i))
  have epc : pgN P W H = pc := by
    unfold pgN
    by_cases z : P.2.1 = 0
    · rw [if_pos z]
      have : (layA P W P.2.1).1 = 0 := by rw [z]; rfl
      omega
    · rw [if_neg z]; exact (p5 (pagQ_E P W H P.2.1 (by omega))).1.symm
  have a1' : LX1_putOnPages_12 FU t (zI H) (zI (P.2.2 4)) 0 (stI (stI σ 38 t 0) 40 t 0) = some τ1 := a1
  have c1' : LX1_putOnPages_55 FU t 0 τ1 = some τ2 := c1
  refine ⟨τ2, by rw [f_X1_putOnPages, a1', bnd, c1', bnd], ⟨c2, c3, ?_, ?_⟩, FZ_trans g0 (FZ_trans a4 c6)⟩
  · rw [epc]; exact ⟨c4, by omega⟩
  · rw [epc]; exact c5


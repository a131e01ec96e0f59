theorem qE_rows (H : Nat) : ∀ d r s, 0 < d → qE (rowsQ H d r s) = false
  | 0, _, _, h => absurd h (Nat.lt_irrefl 0)
  | 1, _, _, _ => rfl
  | d + 2, r, s, _ => qE_rows H (d + 1) (r + 1) (rowQ H r s) (Nat.succ_pos d)
theorem XR_le {P : PoT} {W i : Nat} (ho : okP P) (hW : 12 ≤ W) (hW2 : W ≤ 60) (hi : i < (layA P W P.2.1).1) : XR (layA P W P.2.1) i ≤ 1000 := by
  obtain ⟨k, a, b, c⟩ := layA_in P W P.2.1 i hi
  have := (layA_row P W a b c).2
  have h3 := (layA_ok ho hW hW2 k (by omega)).2.2 a
  unfold XR; omega
/-- a row of line k -/
theorem c_it {Q : Nat → Prop} {C S : Nat} {σ : St} {t W H k z i f0 all : Nat} {P : PoT} {s : QS} (ho : okP P) (hW : 12 ≤ W) (hW2 : W ≤ 60) (hH : H ≤ 30) (hH4 : 4 ≤ H) (h : BR Q C S σ t P W) (hk : k < P.2.1) (h1 : (layA P W k).1 ≤ i) (h2 : i < (layA P W (k + 1)).1) (hzk : hpK σ z = 7) (h225 : hpI σ 225 z = zI f0) (h226 : hpI σ 226 z = zI all) (hlt : i < f0 + all) (hf : f0 + all ≤ 480) (hq : PQ σ t H (XR (layA P W P.2.1)) s i) (hE : i = (layA P W k).1 → f0 < i → qE s = false) (f : Nat) :
    ∃ τ, LX1_putStanza_5 (f + 1) t (some z) (zI H) (zI i) σ = LX1_putStanza_5 f t (some z) (zI H) (zI ((i + 1 : Nat) : Int)) τ ∧ BR Q C S τ t P W ∧ PQ τ t H (XR (layA P W P.2.1)) (rowQ H i (if i = (layA P W k).1 ∧ f0 < i then headQ H (P.2.2 4) (lrS P W k) all false s else s)) (i + 1) ∧ FZ (okPg Q t) (oB t 4) σ τ := by
  have h24 := ho.1
  have hN := h.1.2.1.1
  have hm := layA_mono P W (show k + 1 ≤ P.2.1 by omega)
  have h480 := h.2.1.2.1
  have hin : i < (layA P W P.2.1).1 := by omega
  obtain ⟨ro, r1, r2⟩ := h.2.1.2.2.1 i hin
  have kr := RoL_k h.1 (by omega) r1
  obtain ⟨l1, l2⟩ := layA_row P W hk h1 h2
  obtain ⟨sp, b1, b2, b3⟩ := h.2.2.2.1 k hk
  have ks := SP_k h.1 (show k < 24 by omega) b1
  have h3 := (layA_ok ho hW hW2 k (by omega)).2.2 hk
  have hlr : lrS P W k ≤ 20 := by unfold lrS; omega
  have ex : (if ¬ zI ((rIx ((layA P W P.2.1).2 i) : Nat) : Int) = 0 then some (0 : Int32) else if zI (i : Int) ≤ zI f0 then some 0 else some 1) = some (if i = (layA P W k).1 ∧ f0 < i then 1 else 0) := by
    rw [l2]
    have ez : (zI ((i - (layA P W k).1 : Nat) : Int) = 0) ↔ i - (layA P W k).1 = 0 := zN_eq (b := 0) (by omega) (by omega)
    by_cases q : i = (layA P W k).1
    · rw [if_neg (fun x => x (ez.mpr (by omega)))]
      by_cases q2 : f0 < i
      · rw [if_neg (fun x => by have := (zN_le (by omega) (by omega)).mp x; omega), if_pos ⟨q, q2⟩]
      · rw [if_pos ((zN_le (by omega) (by omega)).mpr (by omega)), if_neg (fun x => q2 x.2)]
    · rw [if_pos (fun x => by have := ez.mp x; omega), if_neg (fun x => q x.1)]
  -- closing the page
  obtain ⟨τ1, c1, c2, c3, c4⟩ : ∃ τ1, (if (if i = (layA P W k).1 ∧ f0 < i then (1 : Int32) else 0) = 0 then some σ else (dn σ 3 (some sp)).bind fun a28 => if (hpI σ 100 a28) ≤ (zI H - (hpI σ 40 t)) then some σ else (f_X1_closePage σ t (zI H)).bind fun q31 => some q31) = some τ1 ∧ BR Q C S τ1 t P W ∧ PQ τ1 t H (XR (layA P W P.2.1)) (if i = (layA P W k).1 ∧ f0 < i then headQ H (P.2.2 4) (lrS P W k) all false s else s) i ∧ FZ (okPg Q t) (oB t 4) σ τ1 := by
    by_cases q : i = (layA P W k).1 ∧ f0 < i
    · have he := hE q.1 q.2
      obtain ⟨pc, np, p1, p2, p0, p3, p4, p5, p6⟩ := id hq
      obtain ⟨e1, e2⟩ := p5 he
      have hhd : headQ H (P.2.2 4) (lrS P W k) all false s = (if qE s = false ∧ H < qPl s + lrS P W k then tnQ s else s) := rfl
      rw [if_pos q, if_pos q, if_neg (by decide), dn_eq ks.1, bnd, b3, p2, zN_sub p4, hhd]
      by_cases a : H < qPl s + lrS P W k
      · rw [if_neg (fun x => by have := (zN_le (by omega) (by omega)).mp x; omega), if_pos ⟨he, a⟩]
        exact ⟨_, rfl, BR_FZ ho h (FZ_40 _) (LI_stI h.1 _ _ _), PQ_cl hq he, FZ_40 _⟩
      · rw [if_pos ((zN_le (by omega) (by omega)).mpr (by omega)), if_neg (fun x => a x.2)]
        exact ⟨σ, rfl, h, hq, FZ_refl _ _ _⟩
    · rw [if_neg q, if_neg q, if_pos rfl]
      exact ⟨σ, rfl, h, hq, FZ_refl _ _ _⟩
  obtain ⟨τ, d1, d2, d3, d4⟩ := c_putRow c2.1 c2.2.1 (fun j hj => XR_le ho hW hW2 hj) hin hH hH4 (FZ_B c4 (by omega) r1) c3
  refine ⟨τ, ?_, BR_FZ ho c2 d4 d2, d3, FZ_trans c4 d4⟩
  rw [LX1_putStanza_5, dn_eq hzk, bnd, h225, h226, zN_add, if_neg (fun x => by have := (zN_le (by omega) (by omega)).mp x; omega), dn_eq h.1.2.2.1, bnd, c_rowAtN h.1 h.2.1.1 h480 hin, r1, bnd, if_neg (by simp), dn_eq kr.1, bnd, r2.1, l1, c_spanAtN h.1 h.2.2.1 h24 hk, b1, bnd, bnd, if_neg (by simp), bnd, r2.2.1, ex, bnd, c1, bnd, dn_eq c2.1.2.2.1, bnd, d1, bnd, bnd, zN_add1]
/-- rows of a line behind its first one -/
theorem c_rowsL {Q : Nat → Prop} {C S t W H k z f0 all : Nat} {P : PoT} (ho : okP P) (hW : 12 ≤ W) (hW2 : W ≤ 60) (hH : H ≤ 30) (hH4 : 4 ≤ H) (hk : k < P.2.1) (hf : f0 + all ≤ 480) (hend : (layA P W (k + 1)).1 ≤ f0 + all) : ∀ (d i : Nat) (σ : St) (s : QS) (f : Nat), i + d = (layA P W (k + 1)).1 → (layA P W k).1 < i → BR Q C S σ t P W → hpK σ z = 7 → z < hpN σ → hpI σ 225 z = zI f0 → hpI σ 226 z = zI all → PQ σ t H (XR (layA P W P.2.1)) s i →
    ∃ τ, LX1_putStanza_5 (f + d) t (some z) (zI H) (zI i) σ = LX1_putStanza_5 f t (some z) (zI H) (zI (layA P W (k + 1)).1) τ ∧ BR Q C S τ t P W ∧ PQ τ t H (XR (layA P W P.2.1)) (rowsQ H d i s) (layA P W (k + 1)).1 ∧ FZ (okPg Q t) (oB t 4) σ τ := by
  intro d
  induction d with
  | zero =>
    intro i σ s f h1 h2 h hzk hzn h225 h226 hq
    have e : i = (layA P W (k + 1)).1 := by omega
    subst e
    exact ⟨σ, rfl, h, hq, FZ_refl _ _ _⟩
  | succ d ih =>
    intro i σ s f h1 h2 h hzk hzn h225 h226 hq
    obtain ⟨τ1, a1, a2, a3, a4⟩ := c_it ho hW hW2 hH hH4 h hk (by omega) (by omega) hzk h225 h226 (by omega) hf hq (fun x => by omega) (f + d)
    rw [if_neg (fun x => by have := x.1; omega)] at a3
    obtain ⟨τ, b1, b2, b3, b4⟩ := ih (i + 1) τ1 _ f (by omega) (by omega) a2 ((FZ_K a4 hzn).trans hzk) (Nat.lt_of_lt_of_le hzn a4.1) ((FZ_I a4 hzn (fun x => by unfold okPg at x; omega)).trans h225) ((FZ_I a4 hzn (fun x => by unfold okPg at x; omega)).trans h226) a3
    exact ⟨τ, (show f + (d + 1) = f + d + 1 by omega) ▸ a1.trans b1, b2, b3, FZ_trans a4 b4⟩
/-- all rows of a line -/
theorem c_line {Q : Nat → Prop} {C S t W H k z f0 all : Nat} {P : PoT} {σ : St} {s : QS} (ho : okP P) (hW : 12 ≤ W) (hW2 : W ≤ 60) (hH : H ≤ 30) (hH4 : 4 ≤ H) (hk : k < P.2.1) (hf : f0 + all ≤ 480) (hend : (layA P W (k + 1)).1 ≤ f0 + all) (h : BR Q C S σ t P W) (hzk : hpK σ z = 7) (hzn : z < hpN σ) (h225 : hpI σ 225 z = zI f0) (h226 : hpI σ 226 z = zI all) (hq : PQ σ t H (XR (layA P W P.2.1)) s (layA P W k).1) (hE : f0 < (layA P W k).1 → qE s = false) (f : Nat) :
    ∃ τ, LX1_putStanza_5 (f + lrS P W k) t (some z) (zI H) (zI (layA P W k).1) σ = LX1_putStanza_5 f t (some z) (zI H) (zI (layA P W (k + 1)).1) τ ∧ BR Q C S τ t P W ∧ PQ τ t H (XR (layA P W P.2.1)) (rowsQ H (lrS P W k) (layA P W k).1 (if f0 < (layA P W k).1 then headQ H (P.2.2 4) (lrS P W k) all false s else s)) (layA P W (k + 1)).1 ∧ FZ (okPg Q t) (oB t 4) σ τ := by
  have hlt := layA_lt P W k
  obtain ⟨τ1, a1, a2, a3, a4⟩ := c_it (i := (layA P W k).1) ho hW hW2 hH hH4 h hk (Nat.le_refl _) hlt hzk h225 h226 (by omega) hf hq (fun _ => hE) (f + (lrS P W k - 1))
  have e1 : (if (layA P W k).1 = (layA P W k).1 ∧ f0 < (layA P W k).1 then headQ H (P.2.2 4) (lrS P W k) all false s else s) = (if f0 < (layA P W k).1 then headQ H (P.2.2 4) (lrS P W k) all false s else s) := by
    by_cases q : f0 < (layA P W k).1
    · rw [if_pos ⟨rfl, q⟩, if_pos q]
    · rw [if_neg (fun x => q x.2), if_neg q]
  rw [e1] at a3
  generalize (if f0 < (layA P W k).1 then headQ H (P.2.2 4) (lrS P W k) all false s else s) = s1 at *
  have hl : lrS P W k = (lrS P W k - 1) + 1 := by unfold lrS; omega
  obtain ⟨τ, b1, b2, b3, b4⟩ := c_rowsL ho hW hW2 hH hH4 hk hf hend (lrS P W k - 1) ((layA P W k).1 + 1) τ1 _ f (by unfold lrS; omega) (by omega) a2 ((FZ_K a4 hzn).trans hzk) (Nat.lt_of_lt_of_le hzn a4.1) ((FZ_I a4 hzn (fun x => by unfold okPg at x; omega)).trans h225) ((FZ_I a4 hzn (fun x => by unfold okPg at x; omega)).trans h226) a3
  refine ⟨τ, ?_, b2, ?_, FZ_trans a4 b4⟩
  · rw [hl, ← Nat.add_assoc]; exact a1.trans b1
  · rw [hl]; exact b3
/-- the lines of a stanza behind its first one -/
theorem c_linesZ {Q : Nat → Prop} {C S t W H k e z : Nat} {P : PoT} (ho : okP P) (hW : 12 ≤ W) (hW2 : W ≤ 60) (hH : H ≤ 30) (hH4 : 4 ≤ H) (hen : e ≤ P.2.1) (hno : ∀ j, k + 1 ≤ j → j < e → bgS P j = false) : ∀ (d j : Nat) (σ : St) (f : Nat), j + d = e → k < j → BR Q C S σ t P W → hpK σ z = 7 → z < hpN σ → hpI σ 225 z = zI (layA P W k).1 → hpI σ 226 z = zI (((layA P W e).1 - (layA P W k).1 : Nat) : Int) → PQ σ t H (XR (layA P W P.2.1)) (pagQ P W H j) (layA P W j).1 → qE (pagQ P W H j) = false →
    ∃ τ, LX1_putStanza_5 (f + ((layA P W e).1 - (layA P W j).1)) t (some z) (zI H) (zI (layA P W j).1) σ = LX1_putStanza_5 f t (some z) (zI H) (zI (layA P W e).1) τ ∧ BR Q C S τ t P W ∧ PQ τ t H (XR (layA P W P.2.1)) (pagQ P W H e) (layA P W e).1 ∧ qE (pagQ P W H e) = false ∧ FZ (okPg Q t) (oB t 4) σ τ := by
  intro d
  have h24 := ho.1
  induction d with
  | zero =>
    intro j σ f h1 h2 h hzk hzn h225 h226 hq hE
    have e1 : j = e := by omega
    subst e1
    exact ⟨σ, by rw [Nat.sub_self]; rfl, h, hq, hE, FZ_refl _ _ _⟩
  | succ d ih =>
    intro j σ f h1 h2 h hzk hzn h225 h226 hq hE
    have m0 := layA_mono P W (show k + 1 ≤ j by omega)
    have m00 := layA_lt P W k
    have m1 := layA_mono P W (show j + 1 ≤ e by omega)
    have m2 := layA_lt P W j
    have m3 := (layA_ok ho hW hW2 e hen).1
    obtain ⟨τ1, a1, a2, a3, a4⟩ := c_line (f0 := (layA P W k).1) (all := (layA P W e).1 - (layA P W k).1) ho hW hW2 hH hH4 (show j < P.2.1 by omega) (by omega) (by omega) h hzk hzn h225 h226 hq (fun _ => hE) (f + ((layA P W e).1 - (layA P W (j + 1)).1))
    rw [if_pos (by omega)] at a3
    have hb := hno j (by omega) (by omega)
    have ep : pagQ P W H (j + 1) = rowsQ H (lrS P W j) (layA P W j).1 (headQ H (P.2.2 4) (lrS P W j) ((layA P W e).1 - (layA P W k).1) false (pagQ P W H j)) := by
      show lineQ P W H j (pagQ P W H j) = _
      rw [lineQ, hb]; rfl
    rw [← ep] at a3
    have hE1 : qE (pagQ P W H (j + 1)) = false := by rw [ep]; exact qE_rows _ _ _ _ (by unfold lrS; omega)
    obtain ⟨τ, b1, b2, b3, b4, b5⟩ := ih (j + 1) τ1 f (by omega) (by omega) a2 ((FZ_K a4 hzn).trans hzk) (Nat.lt_of_lt_of_le hzn a4.1) ((FZ_I a4 hzn (fun x => by unfold okPg at x; omega)).trans h225) ((FZ_I a4 hzn (fun x => by unfold okPg at x; omega)).trans h226) a3 hE1
    refine ⟨τ, ?_, b2, b3, b4, FZ_trans a4 b5⟩
    rw [show f + ((layA P W e).1 - (layA P W j).1) = f + ((layA P W e).1 - (layA P W (j + 1)).1) + lrS P W j by unfold lrS; omega]
    exact a1.trans b1


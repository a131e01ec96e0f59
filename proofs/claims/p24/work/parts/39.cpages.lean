/-- page p when r rows are placed: its first row, rows, places, lines -/
def pgS (F L : Nat → Nat) (X : Nat → Nat) (p : Nat) : Nat → Nat × Nat × Nat × Nat
  | 0 => (0, 0, 0, 0)
  | r + 1 => if F r = p then ((if (pgS F L X p r).2.1 = 0 then r else (pgS F L X p r).1), (pgS F L X p r).2.1 + 1, L r + 1, (pgS F L X p r).2.2.2 + (if X r = 0 then 1 else 0)) else pgS F L X p r
theorem pgS_c {F L F' L' : Nat → Nat} {X : Nat → Nat} {p : Nat} : ∀ r, (∀ i, i < r → F' i = F i ∧ L' i = L i) → pgS F' L' X p r = pgS F L X p r
  | 0, _ => rfl
  | r + 1, h => by rw [pgS, pgS, pgS_c r (fun i hi => h i (by omega)), (h r (by omega)).1, (h r (by omega)).2]
theorem pgS_0 {F L : Nat → Nat} {X : Nat → Nat} {p : Nat} : ∀ r, (∀ i, i < r → F i ≠ p) → pgS F L X p r = (0, 0, 0, 0)
  | 0, _ => rfl
  | r + 1, h => by rw [pgS, if_neg (h r (by omega)), pgS_0 r (fun i hi => h i (by omega))]
theorem B_I {σ : St} {f a b j : Nat} {v : Int32} {x : Option Nat} (h : hpB σ b j = x) : hpB (stI σ f a v) b j = x := h
theorem upN_e (F : Nat → Nat) (r v : Nat) : upN F r v r = v := if_pos rfl
theorem upN_n {F : Nat → Nat} {r v i : Nat} (h : i ≠ r) : upN F r v i = F i := if_neg h
def okPg (Q : Nat → Prop) (t f a : Nat) : Prop := (a = t ∧ (f = 38 ∨ f = 40)) ∨ (Q a ∧ (f = 194 ∨ f = 195 ∨ (128 ≤ f ∧ f < 160)))
theorem P_k {Q : Nat → Prop} {C S : Nat} {σ : St} {t a i : Nat} (h : LI Q C S σ t) (hi : i < 480) (hb : hpB σ (t + 4) i = some a) : hpK σ a = 4 ∧ a < hpN σ ∧ Q a := h.2.2.2.2.2.2.2.2.2.1 i a hi hb
theorem c_addPage {Q : Nat → Prop} {C S : Nat} {σ : St} {t k s : Nat} (h : LI Q C S σ t) (hs : hpI σ 38 t = zI s) (hs24 : s < 480) :
    ∃ a τ, f_X1_addPage σ t (zI k) = some (some a, τ) ∧ hpB τ (t + 4) s = some a ∧ LI Q C S τ t ∧ FZ (okPg Q t) (oB t 4) σ τ ∧ hpI τ 38 t = zI ((s + 1 : Nat) : Int) ∧ hpI τ 40 t = hpI σ 40 t ∧ hpI τ 128 a = zI k ∧ hpI τ 129 a = zI ((0 : Nat) : Int) ∧ hpI τ 131 a = zI ((0 : Nat) : Int) ∧ ∀ b f, b < hpN σ → b ≠ a → 128 ≤ f → f < 224 → hpI τ f b = hpI σ f b := by
  obtain ⟨a1, a2, a3, a4, a5⟩ := h.2.2.2.2.2.2
  have hN := h.2.1.1
  obtain ⟨a, τ0, g1, g2, g3, g4⟩ := q_getp h hs hs24
  have t38 : hpI τ0 38 t = zI s := (FZ_I g4 (by omega) (fun x => x)).trans hs
  have bk := P_k g2 hs24 g3
  have k7 : hpK (stI τ0 38 t (zI ((s + 1 : Nat) : Int))) a = 4 := bk.1
  refine ⟨a, stI (stI (stI (stI (stI (stI τ0 38 t (zI ((s + 1 : Nat) : Int))) 128 a (zI k)) 129 a 0) 130 a 0) 131 a 0) 132 a 0, ?_, B_I (B_I (B_I (B_I (B_I (B_I g3))))), LI_stI (LI_stI (LI_stI (LI_stI (LI_stI (LI_stI g2 _ _ _) _ _ _) _ _ _) _ _ _) _ _ _) _ _ _, FZ_stI (FZ_stI (FZ_stI (FZ_stI (FZ_stI (FZ_stI (FZ_mono g4 (fun _ _ x => x.elim) (fun _ x => x)) 38 t _ (Or.inl ⟨rfl, Or.inl rfl⟩)) 128 a _ (Or.inr ⟨bk.2.2, Or.inr (Or.inr ⟨by decide, by decide⟩)⟩)) 129 a _ (Or.inr ⟨bk.2.2, Or.inr (Or.inr ⟨by decide, by decide⟩)⟩)) 130 a _ (Or.inr ⟨bk.2.2, Or.inr (Or.inr ⟨by decide, by decide⟩)⟩)) 131 a _ (Or.inr ⟨bk.2.2, Or.inr (Or.inr ⟨by decide, by decide⟩)⟩)) 132 a _ (Or.inr ⟨bk.2.2, Or.inr (Or.inr ⟨by decide, by decide⟩)⟩), ?_, ?_, ?_, ?_, ?_, fun b f hb hne h1 h2 => ?_⟩
  · rw [f_X1_addPage, hs, if_neg (zN_lt0 _ (by omega)), a1, dn_eq a2, bnd, a3, nI_z, if_pos ((zN_lt (by omega) (by omega)).mpr hs24), ix_l _ _ hs24 (by omega), bnd, g1, bnd, dn_eq g2.2.2.1, bnd, t38, zN_add1, dn_eq k7, bnd, sb_inl]
  · rw [hI_f (by decide), hI_f (by decide), hI_f (by decide), hI_f (by decide), hI_f (by decide), hI_e]
  · rw [hI_f (by decide), hI_f (by decide), hI_f (by decide), hI_f (by decide), hI_f (by decide), hI_f (by decide)]; exact FZ_I g4 (by omega) (fun x => x)
  · rw [hI_f (by decide), hI_f (by decide), hI_f (by decide), hI_f (by decide), hI_e]
  · rw [hI_f (by decide), hI_f (by decide), hI_f (by decide), hI_e]; rfl
  · rw [hI_f (by decide), hI_e]; rfl
  · rw [hI_a hne, hI_a hne, hI_a hne, hI_a hne, hI_a hne, hI_f (by omega)]; exact FZ_I g4 hb (fun x => x)
/-- a page's fields -/
def PGW (σ : St) (a : Nat) (g : Nat × Nat × Nat × Nat) : Prop := hpI σ 128 a = zI g.1 ∧ hpI σ 129 a = zI g.2.1 ∧ hpI σ 130 a = zI g.2.2.1 ∧ hpI σ 131 a = zI g.2.2.2
/-- the class's pages: r rows are placed; pc pages, next place np -/
def PQ0 (σ : St) (t r pc : Nat) (F L X : Nat → Nat) : Prop := (∀ p, p < pc → ∃ a, hpB σ (t + 4) p = some a ∧ PGW σ a (pgS F L X p r)) ∧ (∀ i, i < r → ∃ a, hpB σ (t + 1) i = some a ∧ hpI σ 194 a = zI (F i) ∧ hpI σ 195 a = zI (L i)) ∧ (∀ i, i < r → F i < pc) ∧ pc ≤ r ∧ ∀ p, p < pc → 0 < (pgS F L X p r).2.1
def PQ (σ : St) (t H : Nat) (X : Nat → Nat) (s : QS) (r : Nat) : Prop := ∃ pc np : Nat, hpI σ 38 t = zI pc ∧ hpI σ 40 t = zI np ∧ PQ0 σ t r pc (qF s) (qL s) X ∧ qPl s ≤ H ∧ np ≤ H ∧ (qE s = false → pc = qPg s + 1 ∧ np = qPl s) ∧ (qE s = true → pc = qPg s ∧ qPl s = 0 ∧ (np = H ∨ pc = 0))
/-- a row's place and its page's counts are written -/
def putZ (τ : St) (t ro a : Nat) (pg pl rows lines : Nat) : St := stI (stI (stI (stI (stI (stI τ 194 ro (zI pg)) 195 ro (zI pl)) 40 t (zI ((pl + 1 : Nat) : Int))) 129 a (zI ((rows + 1 : Nat) : Int))) 130 a (zI ((pl + 1 : Nat) : Int))) 131 a (zI lines)
theorem c_putRow1 {Q : Nat → Prop} {C S : Nat} {τ : St} {t H r ro a pc np : Nat} {F L X : Nat → Nat} {n : Nat} (h : LI Q C S τ t) (h36 : r < n) (hn : n ≤ 480) (hrow : ∀ i, i < n → ∃ a, hpB τ (t + 1) i = some a ∧ hpI τ 193 a = zI (X i)) (hX : ∀ i, i < n → X i ≤ 1000) (hb : hpB τ (t + 1) r = some ro) (hpc : hpI τ 38 t = zI ((pc + 1 : Nat) : Int)) (hnp : hpI τ 40 t = zI np) (ha : hpB τ (t + 4) pc = some a) (hp0 : ∀ p, p < pc → ∃ a, hpB τ (t + 4) p = some a ∧ PGW τ a (pgS F L X p r)) (h128 : hpI τ 128 a = zI (((if (pgS F L X pc r).2.1 = 0 then r else (pgS F L X pc r).1 : Nat)) : Int)) (h129 : hpI τ 129 a = zI (pgS F L X pc r).2.1) (h131 : hpI τ 131 a = zI (pgS F L X pc r).2.2.2) (hrs : ∀ i, i < r → ∃ a, hpB τ (t + 1) i = some a ∧ hpI τ 194 a = zI (F i) ∧ hpI τ 195 a = zI (L i)) (hF : ∀ i, i < r → F i ≤ pc) (hpcr : pc ≤ r) (hpos : ∀ p, p < pc → 0 < (pgS F L X p r).2.1) :
    ∃ τ', ((dn τ 1 (some t)).bind fun a12 =>
  (dn τ 6 (some ro)).bind fun a14 =>
  (dn (stI (stI (stI τ 194 a14 ((hpI τ 38 a12) - 1)) 195 a14 (hpI (stI τ 194 a14 ((hpI τ 38 a12) - 1)) 40 a12)) 40 a12 ((hpI (stI (stI τ 194 a14 ((hpI τ 38 a12) - 1)) 195 a14 (hpI (stI τ 194 a14 ((hpI τ 38 a12) - 1)) 40 a12)) 40 a12) + 1)) 4 (some a)).bind fun a16 =>
  (if ¬ (hpI (stI (stI (stI (stI (stI τ 194 a14 ((hpI τ 38 a12) - 1)) 195 a14 (hpI (stI τ 194 a14 ((hpI τ 38 a12) - 1)) 40 a12)) 40 a12 ((hpI (stI (stI τ 194 a14 ((hpI τ 38 a12) - 1)) 195 a14 (hpI (stI τ 194 a14 ((hpI τ 38 a12) - 1)) 40 a12)) 40 a12) + 1)) 129 a16 ((hpI (stI (stI (stI τ 194 a14 ((hpI τ 38 a12) - 1)) 195 a14 (hpI (stI τ 194 a14 ((hpI τ 38 a12) - 1)) 40 a12)) 40 a12 ((hpI (stI (stI τ 194 a14 ((hpI τ 38 a12) - 1)) 195 a14 (hpI (stI τ 194 a14 ((hpI τ 38 a12) - 1)) 40 a12)) 40 a12) + 1)) 129 a16) + 1)) 130 a16 (hpI (stI (stI (stI (stI τ 194 a14 ((hpI τ 38 a12) - 1)) 195 a14 (hpI (stI τ 194 a14 ((hpI τ 38 a12) - 1)) 40 a12)) 40 a12 ((hpI (stI (stI τ 194 a14 ((hpI τ 38 a12) - 1)) 195 a14 (hpI (stI τ 194 a14 ((hpI τ 38 a12) - 1)) 40 a12)) 40 a12) + 1)) 129 a16 ((hpI (stI (stI (stI τ 194 a14 ((hpI τ 38 a12) - 1)) 195 a14 (hpI (stI τ 194 a14 ((hpI τ 38 a12) - 1)) 40 a12)) 40 a12 ((hpI (stI (stI τ 194 a14 ((hpI τ 38 a12) - 1)) 195 a14 (hpI (stI τ 194 a14 ((hpI τ 38 a12) - 1)) 40 a12)) 40 a12) + 1)) 129 a16) + 1)) 40 a12)) 193 a14) = 0 then
    some 0
  else
    some 1).bind fun (x18 : Int32) =>
  (f_X10_oneIf (stI (stI (stI (stI (stI τ 194 a14 ((hpI τ 38 a12) - 1)) 195 a14 (hpI (stI τ 194 a14 ((hpI τ 38 a12) - 1)) 40 a12)) 40 a12 ((hpI (stI (stI τ 194 a14 ((hpI τ 38 a12) - 1)) 195 a14 (hpI (stI τ 194 a14 ((hpI τ 38 a12) - 1)) 40 a12)) 40 a12) + 1)) 129 a16 ((hpI (stI (stI (stI τ 194 a14 ((hpI τ 38 a12) - 1)) 195 a14 (hpI (stI τ 194 a14 ((hpI τ 38 a12) - 1)) 40 a12)) 40 a12 ((hpI (stI (stI τ 194 a14 ((hpI τ 38 a12) - 1)) 195 a14 (hpI (stI τ 194 a14 ((hpI τ 38 a12) - 1)) 40 a12)) 40 a12) + 1)) 129 a16) + 1)) 130 a16 (hpI (stI (stI (stI (stI τ 194 a14 ((hpI τ 38 a12) - 1)) 195 a14 (hpI (stI τ 194 a14 ((hpI τ 38 a12) - 1)) 40 a12)) 40 a12 ((hpI (stI (stI τ 194 a14 ((hpI τ 38 a12) - 1)) 195 a14 (hpI (stI τ 194 a14 ((hpI τ 38 a12) - 1)) 40 a12)) 40 a12) + 1)) 129 a16 ((hpI (stI (stI (stI τ 194 a14 ((hpI τ 38 a12) - 1)) 195 a14 (hpI (stI τ 194 a14 ((hpI τ 38 a12) - 1)) 40 a12)) 40 a12 ((hpI (stI (stI τ 194 a14 ((hpI τ 38 a12) - 1)) 195 a14 (hpI (stI τ 194 a14 ((hpI τ 38 a12) - 1)) 40 a12)) 40 a12) + 1)) 129 a16) + 1)) 40 a12)) x18).bind fun q20 =>
  some (stI (stI (stI (stI (stI (stI τ 194 a14 ((hpI τ 38 a12) - 1)) 195 a14 (hpI (stI τ 194 a14 ((hpI τ 38 a12) - 1)) 40 a12)) 40 a12 ((hpI (stI (stI τ 194 a14 ((hpI τ 38 a12) - 1)) 195 a14 (hpI (stI τ 194 a14 ((hpI τ 38 a12) - 1)) 40 a12)) 40 a12) + 1)) 129 a16 ((hpI (stI (stI (stI τ 194 a14 ((hpI τ 38 a12) - 1)) 195 a14 (hpI (stI τ 194 a14 ((hpI τ 38 a12) - 1)) 40 a12)) 40 a12 ((hpI (stI (stI τ 194 a14 ((hpI τ 38 a12) - 1)) 195 a14 (hpI (stI τ 194 a14 ((hpI τ 38 a12) - 1)) 40 a12)) 40 a12) + 1)) 129 a16) + 1)) 130 a16 (hpI (stI (stI (stI (stI τ 194 a14 ((hpI τ 38 a12) - 1)) 195 a14 (hpI (stI τ 194 a14 ((hpI τ 38 a12) - 1)) 40 a12)) 40 a12 ((hpI (stI (stI τ 194 a14 ((hpI τ 38 a12) - 1)) 195 a14 (hpI (stI τ 194 a14 ((hpI τ 38 a12) - 1)) 40 a12)) 40 a12) + 1)) 129 a16 ((hpI (stI (stI (stI τ 194 a14 ((hpI τ 38 a12) - 1)) 195 a14 (hpI (stI τ 194 a14 ((hpI τ 38 a12) - 1)) 40 a12)) 40 a12 ((hpI (stI (stI τ 194 a14 ((hpI τ 38 a12) - 1)) 195 a14 (hpI (stI τ 194 a14 ((hpI τ 38 a12) - 1)) 40 a12)) 40 a12) + 1)) 129 a16) + 1)) 40 a12)) 131 a16 ((hpI (stI (stI (stI (stI (stI τ 194 a14 ((hpI τ 38 a12) - 1)) 195 a14 (hpI (stI τ 194 a14 ((hpI τ 38 a12) - 1)) 40 a12)) 40 a12 ((hpI (stI (stI τ 194 a14 ((hpI τ 38 a12) - 1)) 195 a14 (hpI (stI τ 194 a14 ((hpI τ 38 a12) - 1)) 40 a12)) 40 a12) + 1)) 129 a16 ((hpI (stI (stI (stI τ 194 a14 ((hpI τ 38 a12) - 1)) 195 a14 (hpI (stI τ 194 a14 ((hpI τ 38 a12) - 1)) 40 a12)) 40 a12 ((hpI (stI (stI τ 194 a14 ((hpI τ 38 a12) - 1)) 195 a14 (hpI (stI τ 194 a14 ((hpI τ 38 a12) - 1)) 40 a12)) 40 a12) + 1)) 129 a16) + 1)) 130 a16 (hpI (stI (stI (stI (stI τ 194 a14 ((hpI τ 38 a12) - 1)) 195 a14 (hpI (stI τ 194 a14 ((hpI τ 38 a12) - 1)) 40 a12)) 40 a12 ((hpI (stI (stI τ 194 a14 ((hpI τ 38 a12) - 1)) 195 a14 (hpI (stI τ 194 a14 ((hpI τ 38 a12) - 1)) 40 a12)) 40 a12) + 1)) 129 a16 ((hpI (stI (stI (stI τ 194 a14 ((hpI τ 38 a12) - 1)) 195 a14 (hpI (stI τ 194 a14 ((hpI τ 38 a12) - 1)) 40 a12)) 40 a12 ((hpI (stI (stI τ 194 a14 ((hpI τ 38 a12) - 1)) 195 a14 (hpI (stI τ 194 a14 ((hpI τ 38 a12) - 1)) 40 a12)) 40 a12) + 1)) 129 a16) + 1)) 40 a12)) 131 a16) + q20))) = some τ' ∧ LI Q C S τ' t ∧ FZ (okPg Q t) (oB t 4) τ τ' ∧ hpI τ' 38 t = zI ((pc + 1 : Nat) : Int) ∧ hpI τ' 40 t = zI ((np + 1 : Nat) : Int) ∧ PQ0 τ' t (r + 1) (pc + 1) (upN F r pc) (upN L r np) X := by
  have hN := h.2.1.1
  have kr := RoL_k h (by omega) hb
  have kp := P_k h (show pc < 480 by omega) ha
  have e193 : hpI τ 193 ro = zI (X r) := by
    obtain ⟨y, y1, y2⟩ := hrow r h36
    rw [hb] at y1; cases y1; exact y2
  have i1 : hpI (stI τ 194 ro (zI pc)) 40 t = zI np := by rw [hI_f (by decide)]; exact hnp
  have i2 : hpI (stI (stI τ 194 ro (zI pc)) 195 ro (zI np)) 40 t = zI np := by rw [hI_f (by decide)]; exact i1
  have k3 : hpK (stI (stI (stI τ 194 ro (zI pc)) 195 ro (zI np)) 40 t (zI ((np + 1 : Nat) : Int))) a = 4 := kp.1
  have i3 : hpI (stI (stI (stI τ 194 ro (zI pc)) 195 ro (zI np)) 40 t (zI ((np + 1 : Nat) : Int))) 129 a = zI (pgS F L X pc r).2.1 := by rw [hI_f (by decide), hI_f (by decide), hI_f (by decide)]; exact h129
  generalize hg : pgS F L X pc r = g at *
  have i4 : hpI (stI (stI (stI (stI τ 194 ro (zI pc)) 195 ro (zI np)) 40 t (zI ((np + 1 : Nat) : Int))) 129 a (zI ((g.2.1 + 1 : Nat) : Int))) 40 t = zI ((np + 1 : Nat) : Int) := by rw [hI_f (by decide), hI_e]
  have i5 : hpI (stI (stI (stI (stI (stI τ 194 ro (zI pc)) 195 ro (zI np)) 40 t (zI ((np + 1 : Nat) : Int))) 129 a (zI ((g.2.1 + 1 : Nat) : Int))) 130 a (zI ((np + 1 : Nat) : Int))) 193 ro = zI (X r) := by rw [hI_f (by decide), hI_f (by decide), hI_f (by decide), hI_f (by decide), hI_f (by decide)]; exact e193
  have i6 : hpI (stI (stI (stI (stI (stI τ 194 ro (zI pc)) 195 ro (zI np)) 40 t (zI ((np + 1 : Nat) : Int))) 129 a (zI ((g.2.1 + 1 : Nat) : Int))) 130 a (zI ((np + 1 : Nat) : Int))) 131 a = zI g.2.2.2 := by rw [hI_f (by decide), hI_f (by decide), hI_f (by decide), hI_f (by decide), hI_f (by decide)]; exact h131
  have ez : (zI ((X r : Nat) : Int) = 0) ↔ X r = 0 := zN_eq (b := 0) (by have := hX r h36; omega) (by omega)
  have ex : (if ¬ zI ((X r : Nat) : Int) = 0 then some (0 : Int32) else some 1) = some (zI (((if X r = 0 then 1 else 0 : Nat)) : Int)) := by
    by_cases z : X r = 0
    · rw [if_neg (fun x => x (ez.mpr z)), if_pos z]; rfl
    · rw [if_pos (fun x => z (ez.mp x)), if_neg z]; rfl
  have eo : ∀ σ : St, f_X10_oneIf σ (zI (((if X r = 0 then 1 else 0 : Nat)) : Int)) = some (zI (((if X r = 0 then 1 else 0 : Nat)) : Int)) := fun σ => by
    rw [f_X10_oneIf]
    by_cases z : X r = 0
    · rw [if_pos z, if_neg (by decide)]; rfl
    · rw [if_neg z, if_pos (show zI ((0 : Nat) : Int) = 0 from rfl)]; rfl
  have neO : ∀ i b, i < r → hpB τ (t + 1) i = some b → b ≠ ro := fun i b hi x y => by
    subst y; have := h.2.2.2.1.2.2.2.2 i r b (by omega) (by omega) x hb; omega
  have neP : ∀ p b, p < pc → hpB τ (t + 4) p = some b → b ≠ a := fun p b hp x y => by
    subst y; have := h.2.2.2.2.2.2.2.2.2.2 p pc b (by omega) (by omega) x ha; omega
  have pB : ∀ b j x, hpB τ b j = x → hpB (putZ τ t ro a pc np g.2.1 (g.2.2.2 + (if X r = 0 then 1 else 0))) b j = x := fun b j x hx => B_I (B_I (B_I (B_I (B_I (B_I hx)))))
  refine ⟨putZ τ t ro a pc np g.2.1 (g.2.2.2 + (if X r = 0 then 1 else 0)), ?_, LI_stI (LI_stI (LI_stI (LI_stI (LI_stI (LI_stI h _ _ _) _ _ _) _ _ _) _ _ _) _ _ _) _ _ _, FZ_stI (FZ_stI (FZ_stI (FZ_stI (FZ_stI (FZ_stI (FZ_refl _ _ _) 194 ro _ (Or.inr ⟨kr.2.2, Or.inl rfl⟩)) 195 ro _ (Or.inr ⟨kr.2.2, Or.inr (Or.inl rfl)⟩)) 40 t _ (Or.inl ⟨rfl, Or.inr rfl⟩)) 129 a _ (Or.inr ⟨kp.2.2, Or.inr (Or.inr ⟨by decide, by decide⟩)⟩)) 130 a _ (Or.inr ⟨kp.2.2, Or.inr (Or.inr ⟨by decide, by decide⟩)⟩)) 131 a _ (Or.inr ⟨kp.2.2, Or.inr (Or.inr ⟨by decide, by decide⟩)⟩), ?_, ?_, fun p hp => ?_, fun i hi => ?_, fun i hi => ?_, by omega, fun p hp => ?_⟩
  · rw [dn_eq h.2.2.1, bnd, dn_eq kr.1, bnd, hpc, zN_sub1 (show 0 < pc + 1 by omega), Nat.add_sub_cancel, i1, i2, zN_add1, dn_eq k3, bnd, i3, zN_add1, i4, i5, ex, bnd, eo, bnd, i6, zN_add]; rfl
  · unfold putZ; rw [hI_f (by decide), hI_f (by decide), hI_f (by decide), hI_f (by decide), hI_f (by decide), hI_f (by decide)]; exact hpc
  · unfold putZ; rw [hI_f (by decide), hI_f (by decide), hI_f (by decide), hI_e]
  · by_cases q : p = pc
    · subst q
      refine ⟨a, pB _ _ _ ha, ?_⟩
      have e : pgS (upN F r p) (upN L r np) X p (r + 1) = ((if g.2.1 = 0 then r else g.1), g.2.1 + 1, np + 1, g.2.2.2 + (if X r = 0 then 1 else 0)) := by
        rw [pgS, if_pos (upN_e F r p), pgS_c (F := F) (L := L) r (fun i hi => ⟨upN_n (by omega), upN_n (by omega)⟩), hg, upN_e]
      rw [e]
      unfold putZ
      refine ⟨?_, ?_, ?_, ?_⟩
      · rw [hI_f (by decide), hI_f (by decide), hI_f (by decide), hI_f (by decide), hI_f (by decide), hI_f (by decide)]; exact h128
      · rw [hI_f (by decide), hI_f (by decide), hI_e]
      · rw [hI_f (by decide), hI_e]
      · rw [hI_e]
    · obtain ⟨y, y1, y2, y3, y4, y5⟩ := hp0 p (by omega)
      have ne := neP p y (by omega) y1
      have e : pgS (upN F r pc) (upN L r np) X p (r + 1) = pgS F L X p r := by
        rw [pgS, if_neg (by rw [upN_e]; omega), pgS_c (F := F) (L := L) r (fun i hi => ⟨upN_n (by omega), upN_n (by omega)⟩)]
      refine ⟨y, pB _ _ _ y1, ?_⟩
      rw [e]
      unfold putZ
      refine ⟨?_, ?_, ?_, ?_⟩ <;> rw [hI_a ne, hI_a ne, hI_a ne, hI_f (by decide), hI_f (by decide), hI_f (by decide)] <;> assumption
  · by_cases q : i = r
    · subst q
      refine ⟨ro, pB _ _ _ hb, ?_, ?_⟩
      · unfold putZ; rw [upN_e, hI_f (by decide), hI_f (by decide), hI_f (by decide), hI_f (by decide), hI_f (by decide), hI_e]
      · unfold putZ; rw [upN_e, hI_f (by decide), hI_f (by decide), hI_f (by decide), hI_f (by decide), hI_e]
    · obtain ⟨y, y1, y2, y3⟩ := hrs i (by omega)
      have ne := neO i y (by omega) y1
      refine ⟨y, pB _ _ _ y1, ?_, ?_⟩
      · unfold putZ; rw [upN_n q, hI_f (by decide), hI_f (by decide), hI_f (by decide), hI_f (by decide), hI_a ne, hI_a ne]; exact y2
      · unfold putZ; rw [upN_n q, hI_f (by decide), hI_f (by decide), hI_f (by decide), hI_f (by decide), hI_a ne, hI_a ne]; exact y3
  · show (if i = r then pc else F i) < pc + 1
    split
    · omega
    · have := hF i (by omega); omega
  · by_cases q : p = pc
    · subst q
      rw [pgS, if_pos (upN_e F r p)]
      exact Nat.succ_pos _
    · rw [pgS, if_neg (by rw [upN_e]; omega), pgS_c (F := F) (L := L) r (fun i hi => ⟨upN_n (by omega), upN_n (by omega)⟩)]
      exact hpos p (by omega)


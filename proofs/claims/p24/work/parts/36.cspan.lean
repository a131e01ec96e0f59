theorem FZ_I {ok : Nat → Nat → Prop} {okB : Nat → Prop} {σ τ : St} (g : FZ ok okB σ τ) {f a : Nat} (ha : a < hpN σ) (h : ¬ ok f a) : hpI τ f a = hpI σ f a := (g.2.1 a ha).2.2.2.2.2.2.2 f h
theorem FZ_B {ok : Nat → Nat → Prop} {okB : Nat → Prop} {σ τ : St} (g : FZ ok okB σ τ) {a j v : Nat} (ha : a < hpN σ) (h : hpB σ a j = some v) : hpB τ a j = some v := (g.2.1 a ha).2.2.2.2.2.1 j v h
theorem FZ_K {ok : Nat → Nat → Prop} {okB : Nat → Prop} {σ τ : St} (g : FZ ok okB σ τ) {a : Nat} (ha : a < hpN σ) : hpK τ a = hpK σ a := (g.2.1 a ha).1
theorem c_addStanza {Q : Nat → Prop} {C S : Nat} {σ : St} {t k s r : Nat} (h : LI Q C S σ t) (hs : hpI σ 37 t = zI s) (hs24 : s < 24) (hr : hpI σ 36 t = zI r) :
    ∃ a τ, f_X1_addStanza σ t (zI k) = some (some a, τ) ∧ hpB τ (t + 3) s = some a ∧ LI Q C S τ t ∧ FZ (okZ Q t) (oB t 3) σ τ ∧ hpI τ 37 t = zI ((s + 1 : Nat) : Int) ∧ hpI τ 224 a = zI k ∧ hpI τ 225 a = zI r ∧ hpI τ 226 a = zI ((0 : Nat) : Int) ∧ ∀ b f, b < hpN σ → b ≠ a → 224 ≤ f → f < 256 → hpI τ f b = hpI σ f b := by
  obtain ⟨a1, a2, a3, a4, a5⟩ := h.2.2.2.2.2.1
  have hN := h.2.1.1
  obtain ⟨a, τ0, g1, g2, g3, g4⟩ := q_getz h hs hs24
  have t37 : hpI τ0 37 t = zI s := (FZ_I g4 (by omega) (fun x => x)).trans hs
  have t36 : hpI τ0 36 t = zI r := (FZ_I g4 (by omega) (fun x => x)).trans hr
  have bk := Z_k g2 hs24 g3
  have k7 : hpK (stI τ0 37 t (zI ((s + 1 : Nat) : Int))) a = 7 := bk.1
  have e36 : hpI (stI (stI τ0 37 t (zI ((s + 1 : Nat) : Int))) 224 a (zI k)) 36 t = zI r := by
    rw [hI_f (by decide), hI_f (by decide)]; exact t36
  refine ⟨a, stI (stI (stI (stI τ0 37 t (zI ((s + 1 : Nat) : Int))) 224 a (zI k)) 225 a (zI r)) 226 a 0, ?_, g3, LI_stI (LI_stI (LI_stI (LI_stI g2 _ _ _) _ _ _) _ _ _) _ _ _, FZ_stI (FZ_stI (FZ_stI (FZ_stI (FZ_mono g4 (fun _ _ x => x.elim) (fun _ x => x)) 37 t _ (Or.inl ⟨rfl, rfl⟩)) 224 a _ (Or.inr ⟨by decide, by decide, bk.2.2⟩)) 225 a _ (Or.inr ⟨by decide, by decide, bk.2.2⟩)) 226 a _ (Or.inr ⟨by decide, by decide, bk.2.2⟩), ?_, ?_, ?_, ?_, fun b f hb hne h1 h2 => ?_⟩
  · rw [f_X1_addStanza, hs, if_neg (zN_lt0 _ (by omega)), a1, dn_eq a2, bnd, a3, nI_z, if_pos ((zN_lt (by omega) (by omega)).mpr hs24), ix_l _ _ hs24 (by omega), bnd, g1, bnd, dn_eq g2.2.2.1, bnd, t37, zN_add1, dn_eq k7, bnd, sb_inl, e36]
  · rw [hI_f (by decide), hI_f (by decide), hI_f (by decide), hI_e]
  · rw [hI_f (by decide), hI_f (by decide), hI_e]
  · rw [hI_f (by decide), hI_e]
  · rw [hI_e]; rfl
  · rw [hI_a hne, hI_a hne, hI_a hne, hI_f (by omega)]; exact FZ_I g4 hb (fun x => x)
theorem c_addSpan {Q : Nat → Prop} {C S : Nat} {σ : St} {t al k sz r nu hf b : Nat} (h : LI Q C S σ t) (hk : hpI σ 39 t = zI k) (hk24 : k < 24) (hal : hpK σ al = 2) (hal2 : al < hpN σ) (hhf : hpI σ 66 al = zI hf) (hf1 : hf ≤ 1) (hb1 : b ≤ 1) (hz : hpI σ 37 t = zI sz) (hz1 : 0 < sz) (hr : hpI σ 36 t = zI r) (hnu : f_X1_lastNumber σ t = some (zI nu)) :
    ∃ a τ, f_X1_addSpan σ t (some al) (zI b) = some (some a, τ) ∧ hpB τ (t + 2) k = some a ∧ LI Q C S τ t ∧ FZ (okSp Q t) (oB t 2) σ τ ∧ hpI τ 39 t = zI ((k + 1 : Nat) : Int) ∧ hpI τ 96 a = zI ((hf * b : Nat) : Int) ∧ hpI τ 97 a = zI (((if hf * b = 0 then nu + 1 else nu : Nat)) : Int) ∧ hpI τ 98 a = zI ((sz - 1 : Nat) : Int) ∧ hpI τ 99 a = zI r ∧ ∀ c f, c < hpN σ → c ≠ a → 96 ≤ f → f < 128 → hpI τ f c = hpI σ f c := by
  obtain ⟨a1, a2, a3, a4, a5⟩ := h.2.2.2.2.1
  have hN := h.2.1.1
  obtain ⟨a, τ0, g1, g2, g3, g4⟩ := q_gets h hk hk24
  have t39 : hpI τ0 39 t = zI k := (FZ_I g4 (by omega) (fun x => x)).trans hk
  have t37 : hpI τ0 37 t = zI sz := (FZ_I g4 (by omega) (fun x => x)).trans hz
  have t36 : hpI τ0 36 t = zI r := (FZ_I g4 (by omega) (fun x => x)).trans hr
  have t66 : hpI τ0 66 al = zI hf := (FZ_I g4 hal2 (fun x => x)).trans hhf
  have tal : hpK τ0 al = 2 := (FZ_K g4 hal2).trans hal
  have bk := SP_k g2 hk24 g3
  have k2 : hpK (stI τ0 39 t (zI ((k + 1 : Nat) : Int))) al = 2 := tal
  have k3 : hpK (stI τ0 39 t (zI ((k + 1 : Nat) : Int))) a = 3 := bk.1
  have e66 : hpI (stI τ0 39 t (zI ((k + 1 : Nat) : Int))) 66 al = zI hf := by rw [hI_f (by decide)]; exact t66
  have ex : (if zI (hf : Int) = 0 then some (0 : Int32) else if zI (b : Int) = 0 then some 0 else some 1) = some (zI ((hf * b : Nat) : Int)) := by
    rcases (show hf = 0 ∨ hf = 1 by omega) with rfl | rfl
    · rw [if_pos (show zI ((0 : Nat) : Int) = 0 from rfl), Nat.zero_mul]; rfl
    · rw [if_neg (by decide)]
      rcases (show b = 0 ∨ b = 1 by omega) with rfl | rfl
      · rw [if_pos (show zI ((0 : Nat) : Int) = 0 from rfl)]; rfl
      · rw [if_neg (by decide)]; rfl
  have hle : hf * b = 0 ∨ hf * b = 1 := by
    rcases (show hf = 0 ∨ hf = 1 by omega) with rfl | rfl
    · left; exact Nat.zero_mul b
    · rw [Nat.one_mul]; omega
  generalize hf * b = le at *
  have eg : gz (zI (le : Int)) = some (zI (le : Int)) := by rcases hle with rfl | rfl <;> rfl
  have e96 : hpI (stI (stI τ0 39 t (zI ((k + 1 : Nat) : Int))) 96 a (zI (le : Int))) 96 a = zI (le : Int) := hI_e
  have e38 : (if zI (le : Int) = 0 then some (zI (nu : Int) + 1) else some (zI nu)) = some (zI (((if le = 0 then nu + 1 else nu : Nat)) : Int)) := by
    rcases hle with rfl | rfl
    · rw [if_pos (show zI ((0 : Nat) : Int) = 0 from rfl), if_pos rfl, zN_add1]
    · rw [if_neg (by decide), if_neg (by decide)]
  generalize (if le = 0 then nu + 1 else nu) = nu' at *
  have e37 : hpI (stI (stI (stI τ0 39 t (zI ((k + 1 : Nat) : Int))) 96 a (zI (le : Int))) 97 a (zI (nu' : Int))) 37 t = zI sz := by
    rw [hI_f (by decide), hI_f (by decide), hI_f (by decide)]; exact t37
  have e36 : hpI (stI (stI (stI (stI τ0 39 t (zI ((k + 1 : Nat) : Int))) 96 a (zI (le : Int))) 97 a (zI (nu' : Int))) 98 a (zI ((sz - 1 : Nat) : Int))) 36 t = zI r := by
    rw [hI_f (by decide), hI_f (by decide), hI_f (by decide), hI_f (by decide)]; exact t36
  refine ⟨a, stI (stI (stI (stI (stI τ0 39 t (zI ((k + 1 : Nat) : Int))) 96 a (zI (le : Int))) 97 a (zI (nu' : Int))) 98 a (zI ((sz - 1 : Nat) : Int))) 99 a (zI r), ?_, g3, LI_stI (LI_stI (LI_stI (LI_stI (LI_stI g2 _ _ _) _ _ _) _ _ _) _ _ _) _ _ _, FZ_stI (FZ_stI (FZ_stI (FZ_stI (FZ_stI (FZ_mono g4 (fun _ _ x => x.elim) (fun _ x => x)) 39 t _ (Or.inl ⟨rfl, rfl⟩)) 96 a _ (Or.inr ⟨by decide, by decide, bk.2.2⟩)) 97 a _ (Or.inr ⟨by decide, by decide, bk.2.2⟩)) 98 a _ (Or.inr ⟨by decide, by decide, bk.2.2⟩)) 99 a _ (Or.inr ⟨by decide, by decide, bk.2.2⟩), ?_, ?_, ?_, ?_, ?_, fun c f hc hne h1 h2 => ?_⟩
  · rw [f_X1_addSpan, hnu, bnd, hk, if_neg (zN_lt0 _ (by omega)), a1, dn_eq a2, bnd, a3, nI_z, if_pos ((zN_lt (by omega) (by omega)).mpr hk24), ix_l _ _ hk24 (by omega), bnd, g1, bnd, dn_eq g2.2.2.1, bnd, t39, zN_add1, dn_eq k2, bnd, e66, ex, bnd, dn_eq k3, bnd, eg, bnd, e96, e38, bnd, sb_inl, e37, zN_sub1 hz1, e36]
  · rw [hI_f (by decide), hI_f (by decide), hI_f (by decide), hI_f (by decide), hI_e]
  · rw [hI_f (by decide), hI_f (by decide), hI_f (by decide), hI_e]
  · rw [hI_f (by decide), hI_f (by decide), hI_e]
  · rw [hI_f (by decide), hI_e]
  · rw [hI_e]
  · rw [hI_a hne, hI_a hne, hI_a hne, hI_a hne, hI_f (by omega)]; exact FZ_I g4 hc (fun x => x)
theorem c_lastNumber {Q : Nat → Prop} {C S : Nat} {σ : St} {t W k : Nat} {P : PoT} (h : LI Q C S σ t) (hk : hpI σ 39 t = zI k) (hk24 : k ≤ 24) (hs : SLx σ t P W k) : f_X1_lastNumber σ t = some (zI (nuP P k)) := by
  have e1 : hpI σ 39 t - 1 = zI ((k : Int) - 1) := by rw [hk, show (1 : Int32) = zI 1 from rfl, zI_sub]
  rw [f_X1_lastNumber, e1]
  by_cases q : k = 0
  · subst q
    rw [c_spanAt0 h hk hk24 _ (by omega) (by omega) (by omega), bnd, if_pos rfl]; rfl
  · obtain ⟨a, b1, b2, b3⟩ := hs (k - 1) (by omega)
    have bk := SP_k h (show k - 1 < 24 by omega) b1
    rw [show (k : Int) - 1 = ((k - 1 : Nat) : Int) by omega, c_spanAtN h hk hk24 (by omega), b1, bnd, if_neg (by simp), dn_eq bk.1, bnd, b2.2.1, show k - 1 + 1 = k by omega]
theorem jmin_z (a b : Nat) (ha : a ≤ 2147483647) (hb : b ≤ 2147483647) : jmin (zI a) (zI b) = zI ((min a b : Nat) : Int) := by
  rw [jmin]
  by_cases q : b < a
  · rw [if_pos ((zN_lt hb ha).mpr q), Nat.min_eq_right (by omega)]
  · rw [if_neg (fun x => q ((zN_lt hb ha).mp x)), Nat.min_eq_left (by omega)]
theorem jmax_z (a b : Nat) (ha : a ≤ 2147483647) (hb : b ≤ 2147483647) : jmax (zI a) (zI b) = zI ((max a b : Nat) : Int) := by
  rw [jmax]
  by_cases q : a < b
  · rw [if_pos ((zN_lt ha hb).mpr q), Nat.max_eq_right (by omega)]
  · rw [if_neg (fun x => q ((zN_lt ha hb).mp x)), Nat.max_eq_left (by omega)]
theorem c_widthOf {Q : Nat → Prop} {C S : Nat} {σ : St} {t i : Nat} {rs : RS} {sh : Nat → Nat} (h : LI Q C S σ t) (hr : RoL σ t rs sh) (hi : i < rs.1) : f_X1_widthOf σ t (zI i) = some (zI ((rCo (rs.2 i) + rLe (rs.2 i) : Nat) : Int)) := by
  have h480 := hr.2.1
  obtain ⟨b, b1, b2⟩ := hr.2.2.1 i hi
  have bk := RoL_k h (by omega) b1
  rw [f_X1_widthOf, c_rowAtN h hr.1 hr.2.1 hi, b1, bnd, if_neg (by simp), dn_eq bk.1, bnd, f_X6_end, bnd, b2.2.2.1, b2.2.2.2.2.1, zN_add]
theorem c_firstRow {Q : Nat → Prop} {C S : Nat} {σ : St} {t al as p k W st nu le : Nat} {rs : RS} {sh : Nat → Nat} {P : PoT} (h : LI Q C S σ t) (hr : RoL σ t rs sh) (hn : rs.1 < 480) (hal : hpK σ al = 2) (hst : hpI σ 65 al = zI st) (hst2 : st * P.2.2 2 ≤ 1000) (hp : CP σ p P) (has : hpK σ as = 3) (has2 : as < hpN σ) (h96 : hpI σ 96 as = zI le) (hle : le ≤ 1) (h97 : hpI σ 97 as = zI nu) (hnu : nu ≤ 1000) (hk : k ≤ 100) (hl : 0 < rs.1 → rLn (lastR rs) < k) (h1 : le = 1 → 0 < rs.1 ∧ rCo (lastR rs) + rLe (lastR rs) ≤ 1000) (hW : 12 ≤ W) (hW2 : W ≤ 60) :
    ∃ a τ, f_X1_addFirstRow σ t (some al) (zI k) (some as) (some p) (zI W) = some (some a, τ) ∧ hpB τ (t + 1) rs.1 = some a ∧ LI Q C S τ t ∧ RoL τ t (addR rs (k, 0, min (if le = 1 then rCo (lastR rs) + rLe (lastR rs) + 1 else st * P.2.2 2) (W - 6), 0, 0, 0)) (upN sh rs.1 (if le = 0 ∧ nu % 5 = 0 then nu else 0)) ∧ FZ (okR Q t) (oB t 1) σ τ := by
  have hN := h.2.1.1
  have w6 : zI (W : Int) - 6 = zI ((W - 6 : Nat) : Int) := zN_sub (b := 6) (by omega)
  generalize hcol : (if le = 1 then rCo (lastR rs) + rLe (lastR rs) + 1 else st * P.2.2 2) = col
  have hcol2 : col ≤ 2000 := by
    rw [← hcol]; split
    · rename_i x; have := h1 x; omega
    · omega
  have e0 : (if zI (le : Int) = 0 then
    (dn σ 2 (some al)).bind fun a5 =>
    (dn σ 5 (some p)).bind fun a7 =>
    (f_X5_setting σ a7 2).bind fun q9 =>
    some ((hpI σ 65 a5) * q9)
  else
    (f_X1_widthOf σ t ((hpI σ 36 t) - 1)).bind fun q11 =>
    some (q11 + 1)) = some (zI col) := by
    rcases (show le = 0 ∨ le = 1 by omega) with rfl | rfl
    · rw [if_pos (show zI ((0 : Nat) : Int) = 0 from rfl), dn_eq hal, bnd, dn_eq hp.1.1, bnd, show (2 : Int32) = zI ((2 : Nat) : Int) from rfl, c_setting hp (by decide), bnd, hst, zN_mul, ← hcol, if_neg (by decide)]
    · obtain ⟨x1, x2⟩ := h1 rfl
      rw [if_neg (by decide), hr.1, zN_sub1 x1, c_widthOf h hr (by omega), bnd, zN_add1, ← hcol, if_pos rfl]; rfl
  obtain ⟨a, τ1, g1, g2, g3, g4, g5⟩ := c_addRow (ln := k) (co := min col (W - 6)) (fr := 0) h hr hn (fun x => by have := hl x; omega) hk
  rw [if_neg (fun x => by have := hl x.1; omega)] at g4
  have bk := RoL_k g3 hn g2
  have u3 : hpK τ1 as = 3 := (FZ_K g5 has2).trans has
  have u96 : hpI τ1 96 as = zI le := (FZ_I g5 has2 (fun x => by unfold okR at x; omega)).trans h96
  have u97 : hpI τ1 97 as = zI nu := (FZ_I g5 has2 (fun x => by unfold okR at x; omega)).trans h97
  have ez : (zI (nu : Int) - zI (nu : Int) / 5 * 5 = 0) ↔ nu % 5 = 0 := by
    have e5 : zI (nu : Int) / 5 = zI ((nu / 5 : Nat) : Int) := zN_div (b := 5) (by omega) (by omega)
    have e6 : zI ((nu / 5 : Nat) : Int) * 5 = zI ((nu / 5 * 5 : Nat) : Int) := zN_mul (nu / 5) 5
    rw [e5, e6, zN_sub (by omega), show (0 : Int32) = zI ((0 : Nat) : Int) from rfl, zN_eq (by omega) (by omega)]; omega
  have ex : (if ¬ zI (le : Int) = 0 then
    some (0 : Int32)
  else
    (nz 5).bind fun w19 =>
    if ¬ (zI (nu : Int) - zI (nu : Int) / 5 * 5) = 0 then
      some 0
    else
      some (zI nu)) = some (zI (((if le = 0 ∧ nu % 5 = 0 then nu else 0 : Nat)) : Int)) := by
    rcases (show le = 0 ∨ le = 1 by omega) with rfl | rfl
    · rw [if_neg (by decide), show nz 5 = some 5 from rfl, bnd]
      by_cases z : nu % 5 = 0
      · rw [if_neg (fun x => x (ez.mpr z)), if_pos ⟨rfl, z⟩]
      · rw [if_pos (fun x => z (ez.mp x)), if_neg (fun x => z x.2)]; rfl
    · rw [if_pos (by decide), if_neg (by omega)]; rfl
  obtain ⟨m1, m2, m3⟩ := RoL_sh g3 g4 g2 (if le = 0 ∧ nu % 5 = 0 then nu else 0)
  refine ⟨a, stI τ1 199 a (zI (((if le = 0 ∧ nu % 5 = 0 then nu else 0 : Nat)) : Int)), ?_, g2, m1, m2, FZ_trans g5 m3⟩
  have g1' : f_X1_addRow σ t (zI k) (zI ((min col (W - 6) : Nat) : Int)) 0 = some (some a, τ1) := g1
  rw [f_X1_addFirstRow, dn_eq has, bnd, h96, e0, bnd, w6, jmin_z _ _ (by omega) (by omega), g1', bnd, dn_eq u3, bnd, u96, u97, ex, bnd, dn_eq bk.1, bnd]


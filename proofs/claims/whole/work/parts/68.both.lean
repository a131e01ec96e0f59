theorem ij_eq {σ : St} {t : Nat} {M : MS} (h1 : ∀ f, 352 ≤ f → hpI σ f t = M.1 (f - 352)) (h2 : hpJ σ 377 t = M.2.2) (h3 : ∀ a j, t < a → a ≤ t + 16 → hpA σ a j = M.2.1 (a - t - 1) j) : ij σ t M = σ := by
  obtain ⟨s1, s2, s3, s4, s5, s6, s7, s8, s9, s10, s11⟩ := σ
  have e6 : (fun f a => if a = t ∧ 352 ≤ f then M.1 (f - 352) else s6 f a) = s6 := by
    funext f a
    by_cases q : a = t ∧ 352 ≤ f
    · rw [if_pos q, q.1]; exact (h1 f q.2).symm
    · rw [if_neg q]
  have e8 : (fun f a => if a = t ∧ f = 377 then M.2.2 else s8 f a) = s8 := by
    funext f a
    by_cases q : a = t ∧ f = 377
    · rw [if_pos q, q.1, q.2]; exact h2.symm
    · rw [if_neg q]
  have e9 : (fun a j => if t < a ∧ a ≤ t + 16 then M.2.1 (a - t - 1) j else s9 a j) = s9 := by
    funext a j
    by_cases q : t < a ∧ a ≤ t + 16
    · rw [if_pos q]; exact (h3 a j q.1 q.2).symm
    · rw [if_neg q]
  show (s1, s2, s3, s4, s5, (fun f a => if a = t ∧ 352 ≤ f then M.1 (f - 352) else s6 f a), s7, (fun f a => if a = t ∧ f = 377 then M.2.2 else s8 f a), (fun a j => if t < a ∧ a ≤ t + 16 then M.2.1 (a - t - 1) j else s9 a j), s10, s11) = _
  rw [e6, e8, e9]
theorem ijr_I {σ : St} {t : Nat} {M : MS} (h : ij σ t M = σ) {f : Nat} (hf : 352 ≤ f) : hpI σ f t = M.1 (f - 352) := by
  have e : hpI (ij σ t M) f t = M.1 (f - 352) := if_pos ⟨rfl, hf⟩
  rw [h] at e; exact e
theorem ijr_J {σ : St} {t : Nat} {M : MS} (h : ij σ t M = σ) : hpJ σ 377 t = M.2.2 := by
  have e : hpJ (ij σ t M) 377 t = M.2.2 := if_pos ⟨rfl, rfl⟩
  rw [h] at e; exact e
theorem ijr_A {σ : St} {t : Nat} {M : MS} (h : ij σ t M = σ) {a j : Nat} (h1 : t < a) (h2 : a ≤ t + 16) : hpA σ a j = M.2.1 (a - t - 1) j := by
  have e : hpA (ij σ t M) a j = M.2.1 (a - t - 1) j := if_pos ⟨h1, h2⟩
  rw [h] at e; exact e
theorem ij_ij (σ : St) (t : Nat) (M N : MS) : ij (ij σ t M) t N = ij σ t N := by
  have e6 : (fun f a => if a = t ∧ 352 ≤ f then N.1 (f - 352) else (fun f a => if a = t ∧ 352 ≤ f then M.1 (f - 352) else σ.2.2.2.2.2.1 f a) f a) = fun f a => if a = t ∧ 352 ≤ f then N.1 (f - 352) else σ.2.2.2.2.2.1 f a := by
    funext f a
    by_cases q : a = t ∧ 352 ≤ f
    · rw [if_pos q, if_pos q]
    · rw [if_neg q, if_neg q]; exact if_neg q
  have e8 : (fun f a => if a = t ∧ f = 377 then N.2.2 else (fun f a => if a = t ∧ f = 377 then M.2.2 else σ.2.2.2.2.2.2.2.1 f a) f a) = fun f a => if a = t ∧ f = 377 then N.2.2 else σ.2.2.2.2.2.2.2.1 f a := by
    funext f a
    by_cases q : a = t ∧ f = 377
    · rw [if_pos q, if_pos q]
    · rw [if_neg q, if_neg q]; exact if_neg q
  have e9 : (fun a j => if t < a ∧ a ≤ t + 16 then N.2.1 (a - t - 1) j else (fun a j => if t < a ∧ a ≤ t + 16 then M.2.1 (a - t - 1) j else σ.2.2.2.2.2.2.2.2.1 a j) a j) = fun a j => if t < a ∧ a ≤ t + 16 then N.2.1 (a - t - 1) j else σ.2.2.2.2.2.2.2.2.1 a j := by
    funext a j
    by_cases q : t < a ∧ a ≤ t + 16
    · rw [if_pos q, if_pos q]
    · rw [if_neg q, if_neg q]; exact if_neg q
  show (σ.1, σ.2.1, σ.2.2.1, σ.2.2.2.1, σ.2.2.2.2.1, (fun f a => if a = t ∧ 352 ≤ f then N.1 (f - 352) else (fun f a => if a = t ∧ 352 ≤ f then M.1 (f - 352) else σ.2.2.2.2.2.1 f a) f a), σ.2.2.2.2.2.2.1, (fun f a => if a = t ∧ f = 377 then N.2.2 else (fun f a => if a = t ∧ f = 377 then M.2.2 else σ.2.2.2.2.2.2.2.1 f a) f a), (fun a j => if t < a ∧ a ≤ t + 16 then N.2.1 (a - t - 1) j else (fun a j => if t < a ∧ a ≤ t + 16 then M.2.1 (a - t - 1) j else σ.2.2.2.2.2.2.2.2.1 a j) a j), σ.2.2.2.2.2.2.2.2.2.1, σ.2.2.2.2.2.2.2.2.2.2) = _
  rw [e6, e8, e9]; rfl
/-- below x nothing changes that the law reads -/
def PZ (x : Nat) (σ τ : St) : Prop := ∀ a, a < x → hpK τ a = hpK σ a ∧ hpL τ a = hpL σ a ∧ ∀ j, hpA τ a j = hpA σ a j
theorem PZ_trans {x : Nat} {σ τ ρ : St} (h : PZ x σ τ) (g : PZ x τ ρ) : PZ x σ ρ := fun a ha => ⟨(g a ha).1.trans (h a ha).1, (g a ha).2.1.trans (h a ha).2.1, fun j => ((g a ha).2.2 j).trans ((h a ha).2.2 j)⟩
theorem PZ_refl (x : Nat) (σ : St) : PZ x σ σ := fun _ _ => ⟨rfl, rfl, fun _ => rfl⟩
theorem MR_GZ {ok : Nat → Nat → Prop} {okA okB : Nat → Prop} {σ τ : St} {t : Nat} (h : MR σ t) (g : GZ ok okA okB σ τ) (ht : t + 16 < hpN σ) : MR τ t := by
  have K := fun d (hd : d ≤ 16) => g.2.1 (t + d) (by omega)
  have K0 := g.2.1 t (by omega)
  unfold MR at h ⊢
  rw [K0.1, K0.2.2.1, K0.2.2.1, K0.2.2.1, K0.2.2.1, K0.2.2.1, K0.2.2.1, K0.2.2.1, K0.2.2.1, K0.2.2.1, K0.2.2.1, K0.2.2.1, K0.2.2.1, K0.2.2.1, K0.2.2.1, K0.2.2.1, K0.2.2.1]
  rw [(K 1 (by decide)).1, (K 1 (by decide)).2.1, (K 2 (by decide)).1, (K 2 (by decide)).2.1, (K 3 (by decide)).1, (K 3 (by decide)).2.1, (K 4 (by decide)).1, (K 4 (by decide)).2.1, (K 5 (by decide)).1, (K 5 (by decide)).2.1, (K 6 (by decide)).1, (K 6 (by decide)).2.1, (K 7 (by decide)).1, (K 7 (by decide)).2.1, (K 8 (by decide)).1, (K 8 (by decide)).2.1, (K 9 (by decide)).1, (K 9 (by decide)).2.1, (K 10 (by decide)).1, (K 10 (by decide)).2.1, (K 11 (by decide)).1, (K 11 (by decide)).2.1, (K 12 (by decide)).1, (K 12 (by decide)).2.1, (K 13 (by decide)).1, (K 13 (by decide)).2.1, (K 14 (by decide)).1, (K 14 (by decide)).2.1, (K 15 (by decide)).1, (K 15 (by decide)).2.1, (K 16 (by decide)).1, (K 16 (by decide)).2.1]
  exact h
/-- a class's call leaves the reference -/
theorem cls_step {x : Nat} {σ τ : St} {M : MS} (h1 : MR σ (x + 42)) (h2 : ij σ (x + 42) M = σ) (g : GK x σ τ) (hN : x + 59 ≤ hpN σ) : MR τ (x + 42) ∧ ij τ (x + 42) M = τ ∧ PZ x σ τ := by
  refine ⟨MR_GZ h1 g (by omega), ij_eq (fun f hf => ?_) ?_ (fun a j ha hb => ?_), fun a ha => ?_⟩
  · exact ((g.2.1 (x + 42) (by omega)).2.2.2.2.2.2 f (fun y => by omega)).trans (ijr_I h2 hf)
  · exact ((g.2.1 (x + 42) (by omega)).2.2.2.1 377 (fun y => by omega)).trans (ijr_J h2)
  · exact ((g.2.1 a (by omega)).2.2.2.2.1 j (fun y => by omega)).trans (ijr_A h2 ha hb)
  · obtain ⟨a1, a2, a3, a4, a5, a6, a7⟩ := g.2.1 a (by omega)
    exact ⟨a1, a2, fun j => a5 j (fun y => by omega)⟩
theorem GZ_ij (σ : St) (t : Nat) (M : MS) : GZ (fun f a => a = t ∧ 352 ≤ f) (fun a => t < a ∧ a ≤ t + 16) (fun _ => False) σ (ij σ t M) := by
  refine ⟨Nat.le_refl _, fun a ha => ⟨rfl, rfl, fun f => rfl, fun f x => ?_, fun j x => if_neg x, fun j _ => rfl, fun f x => if_neg x⟩, fun i => rfl⟩
  exact if_neg (fun y => x ⟨y.1, by omega⟩)
/-- class and reference hold the same -/
def WS (x : Nat) (σ : St) (u v : Nat) : Prop := ∃ P hs c T n M, KL x σ P hs c T n ∧ Rm x σ u v ∧ MR σ (x + 42) ∧ ij σ (x + 42) M = σ ∧ MI M P hs c T n
theorem ref_step {x : Nat} {τ : St} {M : MS} {P : PoT} {hs : Nat → PoT} {c : Nat} {T : Nat → Int32} {n u v : Nat} (K : KL x τ P hs c T n) (R : Rm x τ u v) (h1 : MR τ (x + 42)) (m : MI M P hs c T n) : WS x (ij τ (x + 42) M) u v ∧ PZ x τ (ij τ (x + 42) M) := by
  obtain ⟨k, kL, ho⟩ := id K
  obtain ⟨k1, k2, k3, k4, k5, k6, k7, k8⟩ := id k
  have hN := k1.2.2.2.2.2.2
  have g := GZ_ij τ (x + 42) M
  obtain ⟨m1, m2, m3, m4, m5⟩ := KI_mk k g (fun a h y => y) (fun a h y => by omega) (CT_GZ k2 g (by omega) (fun y => by omega) (fun y => by omega)) (PoB_GZ k3 g (fun f a h y => by omega) (fun a h y => by omega) (fun y => by omega) (fun y => by omega) (fun y => y)) (HiB_GZ k4 g (fun f a h y => by omega) (fun a h y => by omega) (fun y => by omega) (fun a h1 h2 => ⟨fun y => by omega, fun y => by omega⟩) (fun a h1 h2 y => y))
  refine ⟨⟨P, hs, c, T, n, M, ⟨m1, LC_tr ho kL (fun f h1 h2 => (g.2.1 _ (by omega)).2.2.2.2.2.2 f (fun y => by omega)) (fun d j a h1 h2 h3 => h3) (fun d i a f h1 h2 h3 h4 h5 h6 => (g.2.1 a (LJ_ow k5 h1 h2 h3 h4).1).2.2.2.2.2.2 f (fun y => by omega)), ho⟩, ⟨by rw [m2, m3]; exact R.1, by rw [m4, m5]; exact R.2⟩, h1, ij_ij τ (x + 42) M M, m⟩, fun a ha => ?_⟩
  obtain ⟨a1, a2, a3, a4, a5, a6, a7⟩ := g.2.1 a (by omega)
  exact ⟨a1, a2, fun j => a5 j (fun y => by omega)⟩
theorem WS_le {x : Nat} {σ : St} {u v u' v' : Nat} (h : WS x σ u v) (hu : u ≤ u') (hv : v ≤ v') : WS x σ u' v' := by
  obtain ⟨P, hs, c, T, n, M, K, R, m1, m2, m3⟩ := h
  exact ⟨P, hs, c, T, n, M, K, ⟨Nat.le_trans R.1 hu, Nat.le_trans R.2 hv⟩, m1, m2, m3⟩
theorem WS_k {x : Nat} {σ : St} {u v : Nat} (h : WS x σ u v) : hpK σ x = 10 ∧ hpK σ (x + 42) = 11 ∧ x + 59 ≤ hpN σ := by
  obtain ⟨P, hs, c, T, n, M, K, R, m1, m2, m3⟩ := h
  exact ⟨K.1.1.1, m1.1, K.1.1.2.2.2.2.2.2⟩
theorem Rm_le {x : Nat} {σ : St} {u v : Nat} (R : Rm x σ u v) : Rm x σ (u + 4) (v + 129) := ⟨Nat.le_trans R.1 (Nat.le_add_right _ _), Nat.le_trans R.2 (Nat.le_add_right _ _)⟩
theorem g_undoR {M : MS} {P : PoT} {hs : Nat → PoT} {c : Nat} {T : Nat → Int32} {n : Nat} (h : MI M P hs c T n) : ∃ r N, g_X11_undo M = some (r, N) ∧ ((c = 0 → r = -3 ∧ MI N P hs c T n) ∧ ∀ d, c = d + 1 → r = zI d ∧ MI N (hs d) hs d T n) := by
  obtain ⟨hp, ho, hh, ht⟩ := id h
  by_cases q : c = 0
  · subst q
    exact ⟨_, _, g_undo0 hh, fun _ => ⟨rfl, h⟩, fun d hd => by omega⟩
  · obtain ⟨d, rfl⟩ : ∃ d, c = d + 1 := ⟨c - 1, by omega⟩
    obtain ⟨N, a1, a2, a3, a4, a5, a6, a7⟩ := g_undo hh
    exact ⟨_, _, a1, fun y => absurd y q, fun d' hd => by
      have : d' = d := by omega
      subst this
      exact ⟨rfl, a2, a3, a4, MT_c ht (fun j => a5 2 j (by decide)) (a6 4 (by decide))⟩⟩
theorem b_insert {x : Nat} {σ : St} {u v : Nat} (W : WS x σ u v) (hu : u + 4 ≤ NX) (hv : v + 129 ≤ SX) (z : Int) (z1 : -2147483648 ≤ z) (z2 : z ≤ 2147483647) :
    ∃ r τ ρ, f_X10_insert σ x (zI z) = some (r, τ) ∧ f_X11_insert τ (x + 42) (zI z) = some (r, ρ) ∧ WS x ρ (u + 4) (v + 129) ∧ PZ x σ τ ∧ PZ x τ ρ ∧ hpK τ (x + 42) = 11 := by
  obtain ⟨P, hs, c, T, n, M, K, R, m1, m2, mi⟩ := W
  obtain ⟨r, τ, a1, a2, a3, cs⟩ := k_insert K R hu hv z z1 z2
  obtain ⟨r', N, b1, ct⟩ := g_insert mi z z1 z2
  obtain ⟨q1, q2, q3⟩ := cls_step m1 m2 a3 K.1.1.2.2.2.2.2.2
  have e : f_X11_insert τ (x + 42) (zI z) = some (r', ij τ (x + 42) N) := by
    have e0 := e_X11_insert q1 b1
    rw [q2] at e0; exact e0
  obtain ⟨P', hs', c', T', n', y1, y2, y3⟩ : ∃ P' hs' c' T' n', r = r' ∧ KL x τ P' hs' c' T' n' ∧ MI N P' hs' c' T' n' := by
    by_cases q : 0 ≤ z ∧ z ≤ P.2.1
    · by_cases f : Flt T n = -1
      · by_cases e : P.2.1 = 24
        · obtain ⟨y1, y2⟩ := cs.2.2.1 q f e; obtain ⟨w1, w2⟩ := ct.2.2.1 q f e; exact ⟨_, _, _, _, _, y1.trans w1.symm, y2, w2⟩
        · have e' : P.2.1 < 24 := by have := mi.2.1.1; omega
          obtain ⟨y1, y2⟩ := cs.2.2.2 q f e'; obtain ⟨w1, w2⟩ := ct.2.2.2 q f e'; exact ⟨_, _, _, _, _, y1.trans w1.symm, y2, w2⟩
      · obtain ⟨y1, y2⟩ := cs.2.1 q f; obtain ⟨w1, w2⟩ := ct.2.1 q f; exact ⟨_, _, _, _, _, y1.trans w1.symm, y2, w2⟩
    · obtain ⟨y1, y2⟩ := cs.1 q; obtain ⟨w1, w2⟩ := ct.1 q; exact ⟨_, _, _, _, _, y1.trans w1.symm, y2, w2⟩
  obtain ⟨z1, z2⟩ := ref_step y2 a2 q1 y3
  exact ⟨r, τ, _, a1, by rw [y1]; exact e, z1, q3, z2, q1.1⟩
theorem b_replace {x : Nat} {σ : St} {u v : Nat} (W : WS x σ u v) (hu : u + 4 ≤ NX) (hv : v + 129 ≤ SX) (z : Int) (z1 : -2147483648 ≤ z) (z2 : z ≤ 2147483647) :
    ∃ r τ ρ, f_X10_replace σ x (zI z) = some (r, τ) ∧ f_X11_replace τ (x + 42) (zI z) = some (r, ρ) ∧ WS x ρ (u + 4) (v + 129) ∧ PZ x σ τ ∧ PZ x τ ρ ∧ hpK τ (x + 42) = 11 := by
  obtain ⟨P, hs, c, T, n, M, K, R, m1, m2, mi⟩ := W
  obtain ⟨r, τ, a1, a2, a3, cs⟩ := k_replace K R hu hv z z1 z2
  obtain ⟨r', N, b1, ct⟩ := g_replace mi z z1 z2
  obtain ⟨q1, q2, q3⟩ := cls_step m1 m2 a3 K.1.1.2.2.2.2.2.2
  have e : f_X11_replace τ (x + 42) (zI z) = some (r', ij τ (x + 42) N) := by
    have e0 := e_X11_replace q1 b1
    rw [q2] at e0; exact e0
  obtain ⟨P', hs', c', T', n', y1, y2, y3⟩ : ∃ P' hs' c' T' n', r = r' ∧ KL x τ P' hs' c' T' n' ∧ MI N P' hs' c' T' n' := by
    by_cases q : 0 ≤ z ∧ z < P.2.1
    · by_cases f : Flt T n = -1
      · obtain ⟨y1, y2⟩ := cs.2.2 q f; obtain ⟨w1, w2⟩ := ct.2.2 q f; exact ⟨_, _, _, _, _, y1.trans w1.symm, y2, w2⟩
      · obtain ⟨y1, y2⟩ := cs.2.1 q f; obtain ⟨w1, w2⟩ := ct.2.1 q f; exact ⟨_, _, _, _, _, y1.trans w1.symm, y2, w2⟩
    · obtain ⟨y1, y2⟩ := cs.1 q; obtain ⟨w1, w2⟩ := ct.1 q; exact ⟨_, _, _, _, _, y1.trans w1.symm, y2, w2⟩
  obtain ⟨z1, z2⟩ := ref_step y2 a2 q1 y3
  exact ⟨r, τ, _, a1, by rw [y1]; exact e, z1, q3, z2, q1.1⟩
theorem b_remove {x : Nat} {σ : St} {u v : Nat} (W : WS x σ u v) (hu : u + 4 ≤ NX) (hv : v + 129 ≤ SX) (z : Int) (z1 : -2147483648 ≤ z) (z2 : z ≤ 2147483647) :
    ∃ r τ ρ, f_X10_remove σ x (zI z) = some (r, τ) ∧ f_X11_remove τ (x + 42) (zI z) = some (r, ρ) ∧ WS x ρ (u + 4) (v + 129) ∧ PZ x σ τ ∧ PZ x τ ρ ∧ hpK τ (x + 42) = 11 := by
  obtain ⟨P, hs, c, T, n, M, K, R, m1, m2, mi⟩ := W
  obtain ⟨r, τ, a1, a2, a3, cs⟩ := k_remove K R hu hv z z1 z2
  obtain ⟨r', N, b1, ct⟩ := g_remove mi z z1 z2
  obtain ⟨q1, q2, q3⟩ := cls_step m1 m2 a3 K.1.1.2.2.2.2.2.2
  have e : f_X11_remove τ (x + 42) (zI z) = some (r', ij τ (x + 42) N) := by
    have e0 := e_X11_remove q1 b1
    rw [q2] at e0; exact e0
  obtain ⟨P', hs', c', T', n', y1, y2, y3⟩ : ∃ P' hs' c' T' n', r = r' ∧ KL x τ P' hs' c' T' n' ∧ MI N P' hs' c' T' n' := by
    by_cases q : 0 ≤ z ∧ z < P.2.1
    · obtain ⟨y1, y2⟩ := cs.2 q; obtain ⟨w1, w2⟩ := ct.2 q; exact ⟨_, _, _, _, _, y1.trans w1.symm, y2, w2⟩
    · obtain ⟨y1, y2⟩ := cs.1 q; obtain ⟨w1, w2⟩ := ct.1 q; exact ⟨_, _, _, _, _, y1.trans w1.symm, y2, w2⟩
  obtain ⟨z1, z2⟩ := ref_step y2 a2 q1 y3
  exact ⟨r, τ, _, a1, by rw [y1]; exact e, z1, q3, z2, q1.1⟩
theorem b_move {x : Nat} {σ : St} {u v : Nat} (W : WS x σ u v) (hu : u + 4 ≤ NX) (hv : v + 129 ≤ SX) (z : Int) (z1 : -2147483648 ≤ z) (z2 : z ≤ 2147483647) (w : Int) (w1 : -2147483648 ≤ w) (w2 : w ≤ 2147483647) (o : Int) (o1 : -2147483648 ≤ o) (o2 : o ≤ 2147483647) :
    ∃ r τ ρ, f_X10_move σ x (zI z) (zI w) (zI o) = some (r, τ) ∧ f_X11_move τ (x + 42) (zI z) (zI w) (zI o) = some (r, ρ) ∧ WS x ρ (u + 4) (v + 129) ∧ PZ x σ τ ∧ PZ x τ ρ ∧ hpK τ (x + 42) = 11 := by
  obtain ⟨P, hs, c, T, n, M, K, R, m1, m2, mi⟩ := W
  obtain ⟨r, τ, a1, a2, a3, cs⟩ := k_move K R hu hv z w o z1 z2 w1 w2 o1 o2
  obtain ⟨r', N, b1, ct⟩ := g_move mi z w o z1 z2 w1 w2 o1 o2
  obtain ⟨q1, q2, q3⟩ := cls_step m1 m2 a3 K.1.1.2.2.2.2.2.2
  have e : f_X11_move τ (x + 42) (zI z) (zI w) (zI o) = some (r', ij τ (x + 42) N) := by
    have e0 := e_X11_move q1 b1
    rw [q2] at e0; exact e0
  obtain ⟨P', hs', c', T', n', y1, y2, y3⟩ : ∃ P' hs' c' T' n', r = r' ∧ KL x τ P' hs' c' T' n' ∧ MI N P' hs' c' T' n' := by
    by_cases q : (1 ≤ w ∧ 0 ≤ z ∧ z + w ≤ P.2.1 ∧ 0 ≤ o ∧ o + w ≤ P.2.1)
    · obtain ⟨y1, y2⟩ := cs.2 q; obtain ⟨w1, w2⟩ := ct.2 q; exact ⟨_, _, _, _, _, y1.trans w1.symm, y2, w2⟩
    · obtain ⟨y1, y2⟩ := cs.1 q; obtain ⟨w1, w2⟩ := ct.1 q; exact ⟨_, _, _, _, _, y1.trans w1.symm, y2, w2⟩
  obtain ⟨z1, z2⟩ := ref_step y2 a2 q1 y3
  exact ⟨r, τ, _, a1, by rw [y1]; exact e, z1, q3, z2, q1.1⟩
theorem b_toggle {x : Nat} {σ : St} {u v : Nat} (W : WS x σ u v) (hu : u + 4 ≤ NX) (hv : v + 129 ≤ SX) (z : Int) (z1 : -2147483648 ≤ z) (z2 : z ≤ 2147483647) (b : Bool) :
    ∃ r τ ρ, f_X10_toggle σ x (zI z) (if b = true then 1 else 0) = some (r, τ) ∧ f_X11_toggle τ (x + 42) (zI z) (if b = true then 1 else 0) = some (r, ρ) ∧ WS x ρ (u + 4) (v + 129) ∧ PZ x σ τ ∧ PZ x τ ρ ∧ hpK τ (x + 42) = 11 := by
  obtain ⟨P, hs, c, T, n, M, K, R, m1, m2, mi⟩ := W
  obtain ⟨r, τ, a1, a2, a3, cs⟩ := k_toggle K R hu hv z z1 z2 b
  obtain ⟨r', N, b1, ct⟩ := g_toggle mi z z1 z2 b
  obtain ⟨q1, q2, q3⟩ := cls_step m1 m2 a3 K.1.1.2.2.2.2.2.2
  have e : f_X11_toggle τ (x + 42) (zI z) (if b = true then 1 else 0) = some (r', ij τ (x + 42) N) := by
    have e0 := e_X11_toggle q1 b1
    rw [q2] at e0; exact e0
  obtain ⟨P', hs', c', T', n', y1, y2, y3⟩ : ∃ P' hs' c' T' n', r = r' ∧ KL x τ P' hs' c' T' n' ∧ MI N P' hs' c' T' n' := by
    by_cases q : 0 ≤ z ∧ z < P.2.1
    · obtain ⟨y1, y2⟩ := cs.2 q; obtain ⟨w1, w2⟩ := ct.2 q; exact ⟨_, _, _, _, _, y1.trans w1.symm, y2, w2⟩
    · obtain ⟨y1, y2⟩ := cs.1 q; obtain ⟨w1, w2⟩ := ct.1 q; exact ⟨_, _, _, _, _, y1.trans w1.symm, y2, w2⟩
  obtain ⟨z1, z2⟩ := ref_step y2 a2 q1 y3
  exact ⟨r, τ, _, a1, by rw [y1]; exact e, z1, q3, z2, q1.1⟩
theorem b_set {x : Nat} {σ : St} {u v : Nat} (W : WS x σ u v) (hu : u + 4 ≤ NX) (hv : v + 129 ≤ SX) (z : Int) (z1 : -2147483648 ≤ z) (z2 : z ≤ 2147483647) (w : Int) (w1 : -2147483648 ≤ w) (w2 : w ≤ 2147483647) :
    ∃ r τ ρ, f_X10_set σ x (zI z) (zI w) = some (r, τ) ∧ f_X11_set τ (x + 42) (zI z) (zI w) = some (r, ρ) ∧ WS x ρ (u + 4) (v + 129) ∧ PZ x σ τ ∧ PZ x τ ρ ∧ hpK τ (x + 42) = 11 := by
  obtain ⟨P, hs, c, T, n, M, K, R, m1, m2, mi⟩ := W
  obtain ⟨r, τ, a1, a2, a3, cs⟩ := k_set K R hu hv z w z1 z2 w1 w2
  obtain ⟨r', N, b1, ct⟩ := g_set mi z w z1 z2 w1 w2
  obtain ⟨q1, q2, q3⟩ := cls_step m1 m2 a3 K.1.1.2.2.2.2.2.2
  have e : f_X11_set τ (x + 42) (zI z) (zI w) = some (r', ij τ (x + 42) N) := by
    have e0 := e_X11_set q1 b1
    rw [q2] at e0; exact e0
  obtain ⟨P', hs', c', T', n', y1, y2, y3⟩ : ∃ P' hs' c' T' n', r = r' ∧ KL x τ P' hs' c' T' n' ∧ MI N P' hs' c' T' n' := by
    by_cases q : (0 ≤ z ∧ z < 5 ∧ sLo z.toNat ≤ w ∧ w ≤ sHi z.toNat)
    · obtain ⟨y1, y2⟩ := cs.2 q; obtain ⟨w1, w2⟩ := ct.2 q; exact ⟨_, _, _, _, _, y1.trans w1.symm, y2, w2⟩
    · obtain ⟨y1, y2⟩ := cs.1 q; obtain ⟨w1, w2⟩ := ct.1 q; exact ⟨_, _, _, _, _, y1.trans w1.symm, y2, w2⟩
  obtain ⟨z1, z2⟩ := ref_step y2 a2 q1 y3
  exact ⟨r, τ, _, a1, by rw [y1]; exact e, z1, q3, z2, q1.1⟩
theorem b_type {x : Nat} {σ : St} {u v : Nat} (W : WS x σ u v) (hu : u + 4 ≤ NX) (hv : v + 129 ≤ SX) (z : Int) (z1 : -2147483648 ≤ z) (z2 : z ≤ 2147483647) :
    ∃ r τ ρ, f_X10_type σ x (zI z) = some (r, τ) ∧ f_X11_type τ (x + 42) (zI z) = some (r, ρ) ∧ WS x ρ (u + 4) (v + 129) ∧ PZ x σ τ ∧ PZ x τ ρ ∧ hpK τ (x + 42) = 11 := by
  obtain ⟨P, hs, c, T, n, M, K, R, m1, m2, mi⟩ := W
  obtain ⟨r, τ, a1, a2, a3, cs⟩ := k_type K (Rm_le R) z z1 z2
  obtain ⟨r', N, b1, ct⟩ := g_type mi z z1 z2
  obtain ⟨q1, q2, q3⟩ := cls_step m1 m2 a3 K.1.1.2.2.2.2.2.2
  have e : f_X11_type τ (x + 42) (zI z) = some (r', ij τ (x + 42) N) := by
    have e0 := e_X11_type q1 b1
    rw [q2] at e0; exact e0
  obtain ⟨P', hs', c', T', n', y1, y2, y3⟩ : ∃ P' hs' c' T' n', r = r' ∧ KL x τ P' hs' c' T' n' ∧ MI N P' hs' c' T' n' := by
    by_cases q : 0 ≤ z ∧ z ≤ 127
    · by_cases e : n = 80
      · obtain ⟨y1, y2⟩ := cs.2.1 q e; obtain ⟨w1, w2⟩ := ct.2.1 q e; exact ⟨_, _, _, _, _, y1.trans w1.symm, y2, w2⟩
      · have e' : n < 80 := by have := mi.2.2.2.1; omega
        obtain ⟨y1, y2⟩ := cs.2.2 q e'; obtain ⟨w1, w2⟩ := ct.2.2 q e'; exact ⟨_, _, _, _, _, y1.trans w1.symm, y2, w2⟩
    · obtain ⟨y1, y2⟩ := cs.1 q; obtain ⟨w1, w2⟩ := ct.1 q; exact ⟨_, _, _, _, _, y1.trans w1.symm, y2, w2⟩
  obtain ⟨z1, z2⟩ := ref_step y2 a2 q1 y3
  exact ⟨r, τ, _, a1, by rw [y1]; exact e, z1, q3, z2, q1.1⟩
theorem b_undo {x : Nat} {σ : St} {u v : Nat} (W : WS x σ u v) (hu : u + 4 ≤ NX) (hv : v + 129 ≤ SX) :
    ∃ r τ ρ, f_X10_undo σ x = some (r, τ) ∧ f_X11_undo τ (x + 42) = some (r, ρ) ∧ WS x ρ (u + 4) (v + 129) ∧ PZ x σ τ ∧ PZ x τ ρ ∧ hpK τ (x + 42) = 11 := by
  obtain ⟨P, hs, c, T, n, M, K, R, m1, m2, mi⟩ := W
  obtain ⟨r, τ, a1, a2, a3, cs⟩ := k_undo K R hu hv (fun i hi => (mi.2.2.1.2.2 i hi).1)
  obtain ⟨r', N, b1, ct⟩ := g_undoR mi
  obtain ⟨q1, q2, q3⟩ := cls_step m1 m2 a3 K.1.1.2.2.2.2.2.2
  have e : f_X11_undo τ (x + 42) = some (r', ij τ (x + 42) N) := by
    have e0 := e_X11_undo q1 b1
    rw [q2] at e0; exact e0
  obtain ⟨P', hs', c', T', n', y1, y2, y3⟩ : ∃ P' hs' c' T' n', r = r' ∧ KL x τ P' hs' c' T' n' ∧ MI N P' hs' c' T' n' := by
    by_cases q : c = 0
    · obtain ⟨y1, y2⟩ := cs.1 q; obtain ⟨w1, w2⟩ := ct.1 q; exact ⟨_, _, _, _, _, y1.trans w1.symm, y2, w2⟩
    · obtain ⟨d, hd⟩ : ∃ d, c = d + 1 := ⟨c - 1, by omega⟩
      obtain ⟨y1, y2⟩ := cs.2 d hd; obtain ⟨w1, w2⟩ := ct.2 d hd; exact ⟨_, _, _, _, _, y1.trans w1.symm, y2, w2⟩
  obtain ⟨z1, z2⟩ := ref_step y2 a2 q1 y3
  exact ⟨r, τ, _, a1, by rw [y1]; exact e, z1, q3, z2, q1.1⟩
theorem b_clear {x : Nat} {σ : St} {u v : Nat} (W : WS x σ u v) (hu : u + 4 ≤ NX) (hv : v + 129 ≤ SX) :
    ∃ r τ ρ, f_X10_clear σ x = some (r, τ) ∧ f_X11_clear τ (x + 42) = some (r, ρ) ∧ WS x ρ (u + 4) (v + 129) ∧ PZ x σ τ ∧ PZ x τ ρ ∧ hpK τ (x + 42) = 11 := by
  obtain ⟨P, hs, c, T, n, M, K, R, m1, m2, mi⟩ := W
  obtain ⟨τ, a1, a2, a3, y2⟩ := k_clear K (Rm_le R)
  obtain ⟨N, b1, y3⟩ := g_clearT mi
  obtain ⟨q1, q2, q3⟩ := cls_step m1 m2 a3 K.1.1.2.2.2.2.2.2
  have e := e_X11_clear q1 b1
  rw [q2] at e
  obtain ⟨z1, z2⟩ := ref_step y2 a2 q1 y3
  exact ⟨_, τ, _, a1, e, z1, q3, z2, q1.1⟩
theorem b_bestWidth {x : Nat} {σ : St} {u v : Nat} (W : WS x σ u v) (hu : u + 4 ≤ NX) (hv : v + 129 ≤ SX) (z : Int) (z1 : -2147483648 ≤ z) (z2 : z ≤ 2147483647) :
    ∃ r τ ρ, f_X10_bestWidth σ x (zI z) = some (r, τ) ∧ f_X11_bestWidth τ (x + 42) (zI z) = some (r, ρ) ∧ WS x ρ (u + 4) (v + 129) ∧ PZ x σ τ ∧ PZ x τ ρ ∧ hpK τ (x + 42) = 11 := by
  obtain ⟨P, hs, c, T, n, M, K, R, m1, m2, mi⟩ := W
  obtain ⟨τ, a1, y2, a2, a3⟩ := k_best K (Rm_le R) hu hv z z1 z2
  obtain ⟨N, b1, y3⟩ := g_bestR mi z z1 z2
  obtain ⟨q1, q2, q3⟩ := cls_step m1 m2 a3 K.1.1.2.2.2.2.2.2
  have e := e_X11_bestWidth q1 b1
  rw [q2] at e
  obtain ⟨z1, z2⟩ := ref_step y2 a2 q1 y3
  exact ⟨_, τ, _, a1, e, z1, q3, z2, q1.1⟩
theorem b_leastHeight {x : Nat} {σ : St} {u v : Nat} (W : WS x σ u v) (hu : u + 4 ≤ NX) (hv : v + 129 ≤ SX) (z : Int) (z1 : -2147483648 ≤ z) (z2 : z ≤ 2147483647) :
    ∃ r τ ρ, f_X10_leastHeight σ x (zI z) = some (r, τ) ∧ f_X11_leastHeight τ (x + 42) (zI z) = some (r, ρ) ∧ WS x ρ (u + 4) (v + 129) ∧ PZ x σ τ ∧ PZ x τ ρ ∧ hpK τ (x + 42) = 11 := by
  obtain ⟨P, hs, c, T, n, M, K, R, m1, m2, mi⟩ := W
  obtain ⟨τ, a1, y2, a2, a3⟩ := k_least K (Rm_le R) hu hv z z1 z2
  obtain ⟨N, b1, y3⟩ := g_leastR mi z z1 z2
  obtain ⟨q1, q2, q3⟩ := cls_step m1 m2 a3 K.1.1.2.2.2.2.2.2
  have e := e_X11_leastHeight q1 b1
  rw [q2] at e
  obtain ⟨z1, z2⟩ := ref_step y2 a2 q1 y3
  exact ⟨_, τ, _, a1, e, z1, q3, z2, q1.1⟩
theorem b_fault {x : Nat} {σ : St} {u v : Nat} (W : WS x σ u v) (hu : u + 4 ≤ NX) (hv : v + 129 ≤ SX) (b : Bool) :
    ∃ r ρ, f_X10_fault σ x (if b = true then 1 else 0) = some r ∧ f_X11_fault σ (x + 42) (if b = true then 1 else 0) = some (r, ρ) ∧ WS x ρ (u + 4) (v + 129) ∧ PZ x σ ρ := by
  obtain ⟨P, hs, c, T, n, M, K, R, m1, m2, mi⟩ := W
  have Q : KQ x σ P hs c T n := ⟨K, ⟨Nat.le_trans R.1 (by omega), Nat.le_trans R.2 (by omega)⟩⟩
  have a1 := k_fault K.1 b
  obtain ⟨N, b1, y3⟩ := g_faultR mi b
  have e := e_X11_fault m1 b1
  rw [m2] at e
  obtain ⟨z1, z2⟩ := ref_step K (Rm_le R) m1 y3
  exact ⟨_, _, a1, e, z1, z2⟩
theorem b_line {x : Nat} {σ : St} {u v : Nat} (W : WS x σ u v) (hu : u + 4 ≤ NX) (hv : v + 129 ≤ SX) (z : Int) (z1 : -2147483648 ≤ z) (z2 : z ≤ 2147483647) (w : Int) (w1 : -2147483648 ≤ w) (w2 : w ≤ 2147483647) :
    ∃ r ρ, f_X10_line σ x (zI z) (zI w) = some r ∧ f_X11_line σ (x + 42) (zI z) (zI w) = some (r, ρ) ∧ WS x ρ (u + 4) (v + 129) ∧ PZ x σ ρ := by
  obtain ⟨P, hs, c, T, n, M, K, R, m1, m2, mi⟩ := W
  have Q : KQ x σ P hs c T n := ⟨K, ⟨Nat.le_trans R.1 (by omega), Nat.le_trans R.2 (by omega)⟩⟩
  have a1 := k_line Q z w z1 z2 w1 w2
  obtain ⟨N, b1, y3⟩ := g_lineR mi z w z1 z2 w1 w2
  have e := e_X11_line m1 b1
  rw [m2] at e
  obtain ⟨z1, z2⟩ := ref_step K (Rm_le R) m1 y3
  exact ⟨_, _, a1, e, z1, z2⟩
theorem b_row {x : Nat} {σ : St} {u v : Nat} (W : WS x σ u v) (hu : u + 4 ≤ NX) (hv : v + 129 ≤ SX) (z : Int) (z1 : -2147483648 ≤ z) (z2 : z ≤ 2147483647) (w : Int) (w1 : -2147483648 ≤ w) (w2 : w ≤ 2147483647) :
    ∃ r ρ, f_X10_row σ x (zI z) (zI w) = some r ∧ f_X11_row σ (x + 42) (zI z) (zI w) = some (r, ρ) ∧ WS x ρ (u + 4) (v + 129) ∧ PZ x σ ρ := by
  obtain ⟨P, hs, c, T, n, M, K, R, m1, m2, mi⟩ := W
  have Q : KQ x σ P hs c T n := ⟨K, ⟨Nat.le_trans R.1 (by omega), Nat.le_trans R.2 (by omega)⟩⟩
  have a1 := k_row Q z w z1 z2 w1 w2
  obtain ⟨N, b1, y3⟩ := g_rowR mi z w z1 z2 w1 w2
  have e := e_X11_row m1 b1
  rw [m2] at e
  obtain ⟨z1, z2⟩ := ref_step K (Rm_le R) m1 y3
  exact ⟨_, _, a1, e, z1, z2⟩
theorem b_at {x : Nat} {σ : St} {u v : Nat} (W : WS x σ u v) (hu : u + 4 ≤ NX) (hv : v + 129 ≤ SX) (z : Int) (z1 : -2147483648 ≤ z) (z2 : z ≤ 2147483647) (w : Int) (w1 : -2147483648 ≤ w) (w2 : w ≤ 2147483647) (o : Int) (o1 : -2147483648 ≤ o) (o2 : o ≤ 2147483647) :
    ∃ r ρ, f_X10_at σ x (zI z) (zI w) (zI o) = some r ∧ f_X11_at σ (x + 42) (zI z) (zI w) (zI o) = some (r, ρ) ∧ WS x ρ (u + 4) (v + 129) ∧ PZ x σ ρ := by
  obtain ⟨P, hs, c, T, n, M, K, R, m1, m2, mi⟩ := W
  have Q : KQ x σ P hs c T n := ⟨K, ⟨Nat.le_trans R.1 (by omega), Nat.le_trans R.2 (by omega)⟩⟩
  have a1 := k_at Q z w o z1 z2 w1 w2 o1 o2
  obtain ⟨N, b1, y3⟩ := g_atR mi z w o z1 z2 w1 w2 o1 o2
  have e := e_X11_at m1 b1
  rw [m2] at e
  obtain ⟨z1, z2⟩ := ref_step K (Rm_le R) m1 y3
  exact ⟨_, _, a1, e, z1, z2⟩
theorem b_page {x : Nat} {σ : St} {u v : Nat} (W : WS x σ u v) (hu : u + 4 ≤ NX) (hv : v + 129 ≤ SX) (z : Int) (z1 : -2147483648 ≤ z) (z2 : z ≤ 2147483647) (w : Int) (w1 : -2147483648 ≤ w) (w2 : w ≤ 2147483647) :
    ∃ r ρ, f_X10_page σ x (zI z) (zI w) = some r ∧ f_X11_page σ (x + 42) (zI z) (zI w) = some (r, ρ) ∧ WS x ρ (u + 4) (v + 129) ∧ PZ x σ ρ := by
  obtain ⟨P, hs, c, T, n, M, K, R, m1, m2, mi⟩ := W
  have Q : KQ x σ P hs c T n := ⟨K, ⟨Nat.le_trans R.1 (by omega), Nat.le_trans R.2 (by omega)⟩⟩
  have a1 := k_page Q z w z1 z2 w1 w2
  obtain ⟨N, b1, y3⟩ := g_pageR mi (KQ_pos Q) z w z1 z2 w1 w2
  have e := e_X11_page m1 b1
  rw [m2] at e
  obtain ⟨z1, z2⟩ := ref_step K (Rm_le R) m1 y3
  exact ⟨_, _, a1, e, z1, z2⟩
theorem b_distance {x : Nat} {σ : St} {u v : Nat} (W : WS x σ u v) (hu : u + 4 ≤ NX) (hv : v + 129 ≤ SX) (z : Int) (z1 : -2147483648 ≤ z) (z2 : z ≤ 2147483647) :
    ∃ r ρ, f_X10_distance σ x (zI z) = some r ∧ f_X11_distance σ (x + 42) (zI z) = some (r, ρ) ∧ WS x ρ (u + 4) (v + 129) ∧ PZ x σ ρ := by
  obtain ⟨P, hs, c, T, n, M, K, R, m1, m2, mi⟩ := W
  have Q : KQ x σ P hs c T n := ⟨K, ⟨Nat.le_trans R.1 (by omega), Nat.le_trans R.2 (by omega)⟩⟩
  have a1 := k_distance Q z z1 z2
  obtain ⟨N, b1, y3⟩ := g_distQ mi z z1 z2
  have e := e_X11_distance m1 b1
  rw [m2] at e
  obtain ⟨z1, z2⟩ := ref_step K (Rm_le R) m1 y3
  exact ⟨_, _, a1, e, z1, z2⟩
theorem b_shape {x : Nat} {σ : St} {u v : Nat} (W : WS x σ u v) (hu : u + 4 ≤ NX) (hv : v + 129 ≤ SX) (z : Int) (z1 : -2147483648 ≤ z) (z2 : z ≤ 2147483647) :
    ∃ r ρ, f_X10_shape σ x (zI z) = some r ∧ f_X11_shape σ (x + 42) (zI z) = some (r, ρ) ∧ WS x ρ (u + 4) (v + 129) ∧ PZ x σ ρ := by
  obtain ⟨P, hs, c, T, n, M, K, R, m1, m2, mi⟩ := W
  have Q : KQ x σ P hs c T n := ⟨K, ⟨Nat.le_trans R.1 (by omega), Nat.le_trans R.2 (by omega)⟩⟩
  have a1 := k_shape Q z z1 z2
  obtain ⟨N, b1, y3⟩ := g_shapeQ mi z z1 z2
  have e := e_X11_shape m1 b1
  rw [m2] at e
  obtain ⟨z1, z2⟩ := ref_step K (Rm_le R) m1 y3
  exact ⟨_, _, a1, e, z1, z2⟩
theorem b_count {x : Nat} {σ : St} {u v : Nat} (W : WS x σ u v) (hu : u + 4 ≤ NX) (hv : v + 129 ≤ SX) (z : Int) (z1 : -2147483648 ≤ z) (z2 : z ≤ 2147483647) :
    ∃ r ρ, f_X10_count σ x (zI z) = some r ∧ f_X11_count σ (x + 42) (zI z) = some (r, ρ) ∧ WS x ρ (u + 4) (v + 129) ∧ PZ x σ ρ := by
  obtain ⟨P, hs, c, T, n, M, K, R, m1, m2, mi⟩ := W
  have Q : KQ x σ P hs c T n := ⟨K, ⟨Nat.le_trans R.1 (by omega), Nat.le_trans R.2 (by omega)⟩⟩
  have a1 := k_count Q z z1 z2
  obtain ⟨N, b1, y3⟩ := g_countR mi (KQ_pos Q) z z1 z2
  have e := e_X11_count m1 b1
  rw [m2] at e
  obtain ⟨z1, z2⟩ := ref_step K (Rm_le R) m1 y3
  exact ⟨_, _, a1, e, z1, z2⟩
theorem b_digest {x : Nat} {σ : St} {u v : Nat} (W : WS x σ u v) (hu : u + 4 ≤ NX) (hv : v + 129 ≤ SX) :
    ∃ r ρ, f_X10_digest σ x = some r ∧ f_X11_digest σ (x + 42) = some (r, ρ) ∧ WS x ρ (u + 4) (v + 129) ∧ PZ x σ ρ := by
  obtain ⟨P, hs, c, T, n, M, K, R, m1, m2, mi⟩ := W
  have Q : KQ x σ P hs c T n := ⟨K, ⟨Nat.le_trans R.1 (by omega), Nat.le_trans R.2 (by omega)⟩⟩
  have a1 := k_digest Q
  obtain ⟨N, b1, y3⟩ := g_digestR mi (KQ_pos Q)
  have e := e_X11_digest m1 b1
  rw [m2] at e
  obtain ⟨z1, z2⟩ := ref_step K (Rm_le R) m1 y3
  exact ⟨_, _, a1, e, z1, z2⟩
theorem b_letter {x : Nat} {σ : St} {u v : Nat} (W : WS x σ u v) (hu : u + 4 ≤ NX) (hv : v + 129 ≤ SX) (z : Int) (z1 : -2147483648 ≤ z) (z2 : z ≤ 2147483647) (w : Int) (w1 : -2147483648 ≤ w) (w2 : w ≤ 2147483647) :
    ∃ r, f_X10_letter σ x (zI z) (zI w) = some r ∧ f_X11_letter σ (x + 42) (zI z) (zI w) = some r := by
  obtain ⟨P, hs, c, T, n, M, K, R, m1, m2, mi⟩ := W
  have Q : KQ x σ P hs c T n := ⟨K, ⟨Nat.le_trans R.1 (by omega), Nat.le_trans R.2 (by omega)⟩⟩
  have a1 := k_letter Q z w z1 z2 w1 w2
  have e := e_X11_letter m1 (g_letterR mi z w z1 z2 w1 w2)
  rw [m2] at e
  exact ⟨_, a1, e⟩

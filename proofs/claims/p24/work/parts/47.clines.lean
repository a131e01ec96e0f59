/-- a line at a, its words from b on -/
def LnA (b : Nat) (σ : St) (o : Option Nat) (l : LnT) : Prop := ∃ a, o = some a ∧ a < hpN σ ∧ CLn σ a l ∧ LoB b σ a
theorem PoB_ln {b : Nat} {σ : St} {p : Nat} {P : PoT} (h : PoB b σ p P) {k : Nat} (hk : k < P.2.1) : LnA b σ (hpB σ (p + 1) k) (P.1 k) := by
  obtain ⟨a, d1, d2, d3⟩ := h.1.2.2.2.1 k hk
  exact ⟨a, d1, d2, d3, h.2 k a hk d1⟩
theorem PoB_mk {b : Nat} {σ : St} {p : Nat} {P : PoT} (hs : PoS σ p) (hc : hpI σ 162 p = zI P.2.1) (hn : P.2.1 ≤ 24) (hl : ∀ k, k < P.2.1 → LnA b σ (hpB σ (p + 1) k) (P.1 k)) (hA : ∀ i, i < 5 → hpA σ (p + 2) i = zI (P.2.2 i)) : PoB b σ p P := by
  refine ⟨⟨hs, hc, hn, fun k hk => ?_, hA⟩, fun k a hk ha => ?_⟩
  · obtain ⟨a, a1, a2, a3, a4⟩ := hl k hk
    exact ⟨a, a1, a2, a3⟩
  · obtain ⟨a', a1, a2, a3, a4⟩ := hl k hk
    rw [ha] at a1; cases a1; exact a4
theorem LnA_GZ {ok : Nat → Nat → Prop} {okA okB : Nat → Prop} {b : Nat} {σ τ : St} {o : Option Nat} {l : LnT} (h : LnA b σ o l) (g : GZ ok okA okB σ τ) (hk : ∀ f a, (64 ≤ f ∧ f < 96) ∨ (288 ≤ f ∧ f < 320) → ¬ ok f a) (hA : ∀ a, b ≤ a → ¬ okA a) : LnA b τ o l := by
  obtain ⟨a, a1, a2, a3, a4⟩ := h
  obtain ⟨c1, c2⟩ := CLn_GZ a3 a4 g a2 hk hA
  exact ⟨a, a1, Nat.lt_of_lt_of_le a2 g.1, c1, c2⟩
/-- what a poem's own calls may change: its count, its lines -/
def GP (p : Nat) (σ τ : St) : Prop := GZ (okO p) (fun _ => False) (oB p 1) σ τ
theorem GP_l {b p : Nat} {σ τ : St} {o : Option Nat} {l : LnT} (h : LnA b σ o l) (g : GP p σ τ) : LnA b τ o l := LnA_GZ h g (okO_l p) (fun _ _ x => x)
theorem GP_A {p : Nat} {σ τ : St} (g : GP p σ τ) {a j : Nat} (ha : a < hpN σ) : hpA τ a j = hpA σ a j := (g.2.1 a ha).2.2.2.2.1 j (fun x => x)
/-- lines at .. count - 1 go one up -/
theorem c_pi37 {σ : St} {p b n at0 : Nat} {o : Option Nat} {f : Nat → LnT} (hs : PoS σ p) (hn : n < 24) : ∀ (d v : Nat) (τ : St) (k : Nat), v = at0 + d → v ≤ n → d < k → GP p σ τ → SZ σ τ → (∀ i, i < v → LnA b τ (hpB τ (p + 1) i) (f i)) → (∀ i, v < i → i ≤ n → LnA b τ (hpB τ (p + 1) i) (f (i - 1))) →
    ∃ ρ, LX5_putIn_37 k p (zI at0) o (zI v) τ = some ρ ∧ GP p σ ρ ∧ SZ σ ρ ∧ hpI ρ 162 p = hpI τ 162 p ∧ (∀ i, i < at0 → LnA b ρ (hpB ρ (p + 1) i) (f i)) ∧ (∀ i, at0 < i → i ≤ n → LnA b ρ (hpB ρ (p + 1) i) (f (i - 1))) := by
  intro d
  induction d with
  | zero =>
    intro v τ k h1 h2 h3 g sz h4 h5
    obtain ⟨k, rfl⟩ : ∃ k1, k = k1 + 1 := ⟨k - 1, by omega⟩
    have e : v = at0 := by omega
    subst e
    exact ⟨τ, by rw [LX5_putIn_37, if_pos ((zN_le (by omega) (by omega)).mpr (Nat.le_refl _))], g, sz, rfl, h4, h5⟩
  | succ d ih =>
    intro v τ k h1 h2 h3 g sz h4 h5
    obtain ⟨k, rfl⟩ : ∃ k1, k = k1 + 1 := ⟨k - 1, by omega⟩
    obtain ⟨t1, t2, t3, t4, t5, t6, t7, t8⟩ := PoS_GZ hs g
    obtain ⟨a, c1, c2, c3, c4⟩ := h4 (v - 1) (by omega)
    have g1 : GP p τ (stB τ (p + 1) v (some a)) := GZ_stB (GZ_refl _ _ _ _) (p + 1) v _ rfl
    obtain ⟨ρ, r1, r2, r3, r4, r5, r6⟩ := ih (v - 1) (stB τ (p + 1) v (some a)) k (by omega) (by omega) (by omega) (GZ_trans g g1) sz (fun i hi => by
      rw [hBw, if_neg (fun x => by have := x.2; omega)]; exact GP_l (h4 i (by omega)) g1) (fun i h6 h7 => by
      rw [hBw]
      by_cases y : i = v
      · rw [if_pos ⟨rfl, y⟩, y]; exact GP_l ⟨a, rfl, c2, c3, c4⟩ g1
      · rw [if_neg (fun x => y x.2)]; exact GP_l (h5 i (by omega) h7) g1)
    refine ⟨ρ, ?_, r2, r3, r4, r5, r6⟩
    rw [LX5_putIn_37, if_neg (fun x => by have := (zN_le (by omega) (by omega)).mp x; omega), dn_eq t1, bnd, t3, dn_eq t4, bnd, t5, zN_sub1 (by omega), ix_l _ _ (by omega) (by omega), bnd, ix_l _ _ (by omega) (by omega), bnd, c1, dm_eq1 c3.1, bnd, z_m1 (by omega)]
    exact r1
theorem c_putIn {σ : St} {p b at0 : Nat} {P : PoT} {o : Option Nat} {l : LnT} (h : PoB b σ p P) (hn : P.2.1 < 24) (hat : at0 ≤ P.2.1) (ho : LnA b σ o l) :
    ∃ τ, f_X5_putIn σ p (zI at0) o = some τ ∧ PoB b τ p (insP P at0 l) ∧ GP p σ τ ∧ SZ σ τ := by
  have hs := h.1.1
  have hN := hs.2.1
  obtain ⟨t1, t2, t3, t4, t5, t6, t7, t8⟩ := id hs
  obtain ⟨ρ, r1, r2, r3, r4, r5, r6⟩ := c_pi37 (b := b) (at0 := at0) (o := o) (f := P.1) hs hn (P.2.1 - at0) P.2.1 σ FU (by omega) (Nat.le_refl _) (by simp only [FU]; omega) (GZ_refl _ _ _ _) (SZ_refl _) (fun i hi => PoB_ln h hi) (fun i h1 h2 => by omega)
  obtain ⟨u1, u2, u3, u4, u5, u6, u7, u8⟩ := PoS_GZ hs r2
  have hc : hpI ρ 162 p = zI P.2.1 := r4.trans h.1.2.1
  obtain ⟨a, c1, c2, c3, c4⟩ := GP_l ho r2
  have g1 : GP p ρ (stI (stB ρ (p + 1) at0 o) 162 p (zI ((P.2.1 + 1 : Nat) : Int))) := GZ_stI (ok := okO p) (okA := fun _ => False) (okB := oB p 1) (GZ_stB (GZ_refl _ _ _ _) (p + 1) at0 _ rfl) 162 p _ ⟨rfl, rfl⟩
  have eB : ∀ i, hpB (stI (stB ρ (p + 1) at0 o) 162 p (zI ((P.2.1 + 1 : Nat) : Int))) (p + 1) i = if i = at0 then o else hpB ρ (p + 1) i := fun i => by
    have e : hpB (stI (stB ρ (p + 1) at0 o) 162 p (zI ((P.2.1 + 1 : Nat) : Int))) (p + 1) i = hpB (stB ρ (p + 1) at0 o) (p + 1) i := B_I rfl
    rw [e, hBw]
    by_cases y : i = at0
    · rw [if_pos ⟨rfl, y⟩, if_pos y]
    · rw [if_neg (fun x => y x.2), if_neg y]
  refine ⟨stI (stB ρ (p + 1) at0 o) 162 p (zI ((P.2.1 + 1 : Nat) : Int)), ?_, PoB_mk (PoS_GZ hs (GZ_trans r2 g1)) hI_e (by show P.2.1 + 1 ≤ 24; omega) (fun k hk => ?_) (fun i hi => ?_), GZ_trans r2 g1, r3⟩
  · have k1 : hpI (stB ρ (p + 1) at0 o) 162 p = zI P.2.1 := hc
    rw [f_X5_putIn, if_neg (zN_lt0 _ (by omega)), h.1.2.1, if_neg (fun x => by have := (zN_lt (by omega) (by omega)).mp x; omega), if_neg (zN_lt0 _ (by omega)), t3, dn_eq t4, bnd, t5, nI_z, if_pos ((zN_lt (by omega) (by omega)).mpr hn), r1, bnd, dn_eq u1, bnd, u3, dn_eq u4, bnd, u5, ix_l _ _ (by omega) (by omega), bnd]
    rw [show dm ρ 2 o = some o by rw [c1]; exact dm_eq1 c3.1, bnd, k1, zN_add1]
  · have hk' : k < P.2.1 + 1 := hk
    rw [eB]
    show LnA b _ _ (if k < at0 then P.1 k else if k = at0 then l else P.1 (k - 1))
    by_cases y : k = at0
    · rw [if_pos y, if_neg (by omega), if_pos y]; exact GP_l (GP_l ho r2) g1
    · rw [if_neg y]
      by_cases z : k < at0
      · rw [if_pos z]; exact GP_l (r5 k z) g1
      · rw [if_neg z, if_neg y]; exact GP_l (r6 k (by omega) (by omega)) g1
  · rw [GP_A (GZ_trans r2 g1) (by omega)]; exact h.1.2.2.2.2 i hi
/-- lines behind go one down -/
theorem c_to37 {σ : St} {p b n at0 : Nat} {f : Nat → LnT} (hs : PoS σ p) (hn : n < 24) : ∀ (d v : Nat) (τ : St) (k : Nat), v + d = n → at0 ≤ v → d < k → GP p σ τ → SZ σ τ → hpI τ 162 p = zI n → (∀ i, i < at0 → LnA b τ (hpB τ (p + 1) i) (f i)) → (∀ i, at0 ≤ i → i < v → LnA b τ (hpB τ (p + 1) i) (f (i + 1))) → (∀ i, v < i → i ≤ n → LnA b τ (hpB τ (p + 1) i) (f i)) →
    ∃ ρ, LX5_takeOut_37 k p (zI v) τ = some ρ ∧ GP p σ ρ ∧ SZ σ ρ ∧ hpI ρ 162 p = zI n ∧ (∀ i, i < at0 → LnA b ρ (hpB ρ (p + 1) i) (f i)) ∧ (∀ i, at0 ≤ i → i < n → LnA b ρ (hpB ρ (p + 1) i) (f (i + 1))) := by
  intro d
  induction d with
  | zero =>
    intro v τ k h1 h2 h3 g sz hc h4 h5 h6
    obtain ⟨k, rfl⟩ : ∃ k1, k = k1 + 1 := ⟨k - 1, by omega⟩
    have e : v = n := by omega
    subst e
    obtain ⟨t1, t2, t3, t4, t5, t6, t7, t8⟩ := PoS_GZ hs g
    exact ⟨τ, by rw [LX5_takeOut_37, dn_eq t1, bnd, hc, if_pos ((zN_le (by omega) (by omega)).mpr (Nat.le_refl _))], g, sz, hc, h4, h5⟩
  | succ d ih =>
    intro v τ k h1 h2 h3 g sz hc h4 h5 h6
    obtain ⟨k, rfl⟩ : ∃ k1, k = k1 + 1 := ⟨k - 1, by omega⟩
    obtain ⟨t1, t2, t3, t4, t5, t6, t7, t8⟩ := PoS_GZ hs g
    obtain ⟨a, c1, c2, c3, c4⟩ := h6 (v + 1) (by omega) (by omega)
    have g1 : GP p τ (stB τ (p + 1) v (some a)) := GZ_stB (GZ_refl _ _ _ _) (p + 1) v _ rfl
    obtain ⟨ρ, r1, r2, r3, r4, r5, r6⟩ := ih (v + 1) (stB τ (p + 1) v (some a)) k (by omega) (by omega) (by omega) (GZ_trans g g1) sz hc (fun i hi => by
      rw [hBw, if_neg (fun x => by have := x.2; omega)]; exact GP_l (h4 i hi) g1) (fun i h7 h8 => by
      rw [hBw]
      by_cases y : i = v
      · rw [if_pos ⟨rfl, y⟩, y]; exact GP_l ⟨a, rfl, c2, c3, c4⟩ g1
      · rw [if_neg (fun x => y x.2)]; exact GP_l (h5 i h7 (by omega)) g1) (fun i h7 h8 => by
      rw [hBw, if_neg (fun x => by have := x.2; omega)]; exact GP_l (h6 i (by omega) h8) g1)
    refine ⟨ρ, ?_, r2, r3, r4, r5, r6⟩
    rw [LX5_takeOut_37, dn_eq t1, bnd, hc, if_neg (fun x => by have := (zN_le (by omega) (by omega)).mp x; omega), t3, dn_eq t4, bnd, t5, zN_add1, ix_l _ _ (by omega) (by omega), bnd, ix_l _ _ (by omega) (by omega), bnd, c1, dm_eq1 c3.1, bnd]
    exact r1
theorem c_takeOut {σ : St} {p b at0 : Nat} {P : PoT} (h : PoB b σ p P) (hat : at0 < P.2.1) :
    ∃ τ, f_X5_takeOut σ p (zI at0) = some τ ∧ PoB b τ p (dropP P at0) ∧ GP p σ τ ∧ SZ σ τ := by
  have hs := h.1.1
  have hN := hs.2.1
  have hn := h.1.2.2.1
  obtain ⟨t1, t2, t3, t4, t5, t6, t7, t8⟩ := id hs
  have g0 : GP p σ (stI σ 162 p (zI ((P.2.1 - 1 : Nat) : Int))) := GZ_stI (GZ_refl _ _ _ _) 162 p _ ⟨rfl, rfl⟩
  obtain ⟨ρ, r1, r2, r3, r4, r5, r6⟩ := c_to37 (b := b) (at0 := at0) (f := P.1) (n := P.2.1 - 1) hs (by omega) (P.2.1 - 1 - at0) at0 (stI σ 162 p (zI ((P.2.1 - 1 : Nat) : Int))) FU (by omega) (Nat.le_refl _) (by simp only [FU]; omega) g0 (SZ_refl _) hI_e (fun i hi => GP_l (PoB_ln h (by omega)) g0) (fun i h1 h2 => by omega) (fun i h1 h2 => GP_l (PoB_ln h (by omega)) g0)
  obtain ⟨u1, u2, u3, u4, u5, u6, u7, u8⟩ := PoS_GZ hs r2
  have g1 : GP p ρ (stB ρ (p + 1) (P.2.1 - 1) none) := GZ_stB (GZ_refl _ _ _ _) (p + 1) _ _ rfl
  refine ⟨stB ρ (p + 1) (P.2.1 - 1) none, ?_, PoB_mk (PoS_GZ hs (GZ_trans r2 g1)) r4 (by show P.2.1 - 1 ≤ 24; omega) (fun k hk => ?_) (fun i hi => ?_), GZ_trans r2 g1, r3⟩
  · rw [f_X5_takeOut, if_neg (zN_lt0 _ (by omega)), h.1.2.1, if_neg (fun x => by have := (zN_le (by omega) (by omega)).mp x; omega), t3, dn_eq t4, bnd, t5, nI_z, if_pos ((zN_le (by omega) (by omega)).mpr hn), zN_sub1 (by omega), r1, bnd, dn_eq u1, bnd, u3, dn_eq u4, bnd, r4, u5, ix_l _ _ (by omega) (by omega), bnd]
    rfl
  · have hk' : k < P.2.1 - 1 := hk
    rw [hBw, if_neg (fun x => by have := x.2; omega)]
    show LnA b _ _ (if k < at0 then P.1 k else P.1 (k + 1))
    by_cases z : k < at0
    · rw [if_pos z]; exact GP_l (r5 k z) g1
    · rw [if_neg z]; exact GP_l (r6 k (by omega) hk') g1
  · rw [GP_A (GZ_trans r2 g1) (by omega)]; exact h.1.2.2.2.2 i hi
theorem c_exchange {σ : St} {p b k : Nat} {P : PoT} {o : Option Nat} {l : LnT} (h : PoB b σ p P) (hk : k < P.2.1) (ho : LnA b σ o l) :
    ∃ τ, f_X5_exchange σ p (zI k) o = some τ ∧ PoB b τ p (putL P k l) ∧ GP p σ τ ∧ SZ σ τ := by
  have hs := h.1.1
  have hN := hs.2.1
  have hn := h.1.2.2.1
  obtain ⟨t1, t2, t3, t4, t5, t6, t7, t8⟩ := id hs
  obtain ⟨a, c1, c2, c3, c4⟩ := id ho
  have g1 : GP p σ (stB σ (p + 1) k o) := GZ_stB (GZ_refl _ _ _ _) (p + 1) k _ rfl
  refine ⟨stB σ (p + 1) k o, ?_, PoB_mk (PoS_GZ hs g1) h.1.2.1 hn (fun j hj => ?_) (fun i hi => ?_), g1, SZ_refl _⟩
  · rw [f_X5_exchange, if_neg (zN_lt0 _ (by omega)), h.1.2.1, if_neg (fun x => by have := (zN_le (by omega) (by omega)).mp x; omega), t3, dn_eq t4, bnd, t5, nI_z, if_neg (fun x => by have := (zN_le (by omega) (by omega)).mp x; omega), ix_l _ _ (by omega) (by omega), bnd]
    rw [show dm σ 2 o = some o by rw [c1]; exact dm_eq1 c3.1, bnd]
  · have hj' : j < P.2.1 := hj
    rw [hBw]
    show LnA b _ _ (if j = k then l else P.1 j)
    by_cases y : j = k
    · rw [if_pos ⟨rfl, y⟩, if_pos y]; exact GP_l ho g1
    · rw [if_neg (fun x => y x.2), if_neg y]; exact GP_l (PoB_ln h hj') g1
  · rw [GP_A g1 (by omega)]; exact h.1.2.2.2.2 i hi
theorem c_changeSetting {σ : St} {p b k v : Nat} {P : PoT} (h : PoB b σ p P) (hk : k < 5) (hpb : p + 3 ≤ b) :
    ∃ τ, f_X5_changeSetting σ p (zI k) (zI v) = some τ ∧ PoB b τ p (setP P k v) ∧ GZ (fun _ _ => False) (oB p 2) (fun _ => False) σ τ ∧ SZ σ τ := by
  have hs := h.1.1
  have hN := hs.2.1
  obtain ⟨t1, t2, t3, t4, t5, t6, t7, t8⟩ := id hs
  have g1 : GZ (fun _ _ => False) (oB p 2) (fun _ => False) σ (stA σ (p + 2) k (zI v)) := GZ_stA (GZ_refl _ _ _ _) (p + 2) k _ rfl
  refine ⟨stA σ (p + 2) k (zI v), ?_, PoB_mk (PoS_GZ hs g1) h.1.2.1 h.1.2.2.1 (fun j hj => LnA_GZ (PoB_ln (P := P) h hj) g1 (fun f a _ x => x) (fun a ha x => by unfold oB at x; omega)) (fun i hi => ?_), g1, SZ_refl _⟩
  · rw [f_X5_changeSetting, if_neg (zN_lt0 _ (by omega)), t6, dnA_eq t7, bnd, t8, nI_z, if_neg (fun x => by have := (zN_le (by omega) (by omega)).mp x; omega), dn_eq t7, bnd, t8, ix_l _ _ hk (by omega), bnd]
  · rw [hAw]
    show _ = zI (((if i = k then v else P.2.2 i : Nat)) : Int)
    by_cases y : i = k
    · rw [if_pos ⟨rfl, y⟩, if_pos y]
    · rw [if_neg (fun x => y x.2), if_neg y]; exact h.1.2.2.2.2 i hi


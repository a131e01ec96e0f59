theorem g_m97 {M : MS} {a : Nat} (ha : a < 24) (l1 l2 l3 l4 l6 : Int32) : ∀ (d v f : Nat), v + d = 85 → d < f → LGX11_move_97 f l1 l2 l3 l4 (zI a) l6 (zI v) (cpA M 3 0 0 (85 * a) v) = some (cpA M 3 0 0 (85 * a) 85) := by
  intro d
  induction d with
  | zero =>
    intro v f h hf
    obtain ⟨f, rfl⟩ : ∃ f', f = f' + 1 := ⟨f - 1, by omega⟩
    have hc : (85 : Int32) ≤ zI v := (zN_le (a := 85) (by omega) (by omega)).mpr (by omega)
    rw [LGX11_move_97, if_pos hc, show v = 85 by omega]
  | succ d ih =>
    intro v f h hf
    obtain ⟨f, rfl⟩ : ∃ f', f = f' + 1 := ⟨f - 1, by omega⟩
    have hc : ¬ (85 : Int32) ≤ zI v := fun q => by have := (zN_le (a := 85) (by omega) (by omega)).mp q; omega
    have st := cpA_s M 3 0 0 (85 * a) v (by omega)
    rw [Nat.zero_add] at st
    rw [LGX11_move_97, if_neg hc, g_of ha (by omega), bnd, ix_l _ _ (by omega) (by omega), bnd, zN_add1, st]
    exact ih (v + 1) f (by omega) (by omega)
theorem z_m1 {v : Nat} (h : 0 < v) : zI (v : Int) + (-1) = zI ((v - 1 : Nat) : Int) := by
  rw [show ((v - 1 : Nat) : Int) = (v : Int) + (-1) by omega]; rw [← zI_add]; rfl
/-- lines b .. a - 1 go one up -/
theorem g_m129 {f : Nat → LnT} {a b n : Nat} (ha : a < n) (hn : n ≤ 24) (hf : ∀ i, i < n → nLen (f i) ≤ 80) (l1 l2 l3 l4 l5 : Int32) : ∀ (d v : Nat) (M : MS) (k : Nat), v = b + d → v ≤ a → (∀ i, i < n → i ≤ v - 1 ∨ a < i → v ≠ 0 ∨ a < i → LiA M i (f i)) → (∀ i, v < i → i ≤ a → LiA M i (f (i - 1))) → d < k → ∃ N, LGX11_move_129 k l1 l2 l3 l4 l5 (zI b) (zI v) M = some N ∧ (∀ i, i < n → i < b ∨ a < i → LiA N i (f i)) ∧ (∀ i, b < i → i ≤ a → LiA N i (f (i - 1))) ∧ FLn M N := by
  intro d
  induction d with
  | zero =>
    intro v M k h1 h2 h3 h4 h5
    obtain ⟨k, rfl⟩ : ∃ k', k = k' + 1 := ⟨k - 1, by omega⟩
    have e : v = b := by omega
    subst e
    exact ⟨M, by rw [LGX11_move_129, if_pos ((zN_le (by omega) (by omega)).mpr (by omega))], fun i hi hj => h3 i hi (by omega) (by omega), h4, FLn_refl M⟩
  | succ d ih =>
    intro v M k h1 h2 h3 h4 h5
    obtain ⟨k, rfl⟩ : ∃ k', k = k' + 1 := ⟨k - 1, by omega⟩
    obtain ⟨N, n1, n2, n3, n4⟩ := ih (v - 1) (cpA M 0 (85 * v) 0 (85 * (v - 1)) 85) k (by omega) (by omega) (fun i hi hj hk => LiA_cp (h3 i hi (by omega) (by omega)) (hf i hi) (by omega)) (fun i h6 h7 => by
      by_cases q : i = v
      · subst q; exact LiA_to (h3 (i - 1) (by omega) (by omega) (by omega)) (hf (i - 1) (by omega))
      · exact LiA_cp (h4 i (by omega) h7) (hf (i - 1) (by omega)) q) (by omega)
    refine ⟨N, ?_, n2, n3, FLn_trans (FLn_cp (by omega)) n4⟩
    rw [LGX11_move_129, if_neg (fun x => by have := (zN_le (by omega) (by omega)).mp x; omega), zN_sub1 (by omega), g_copies (by omega) (by omega) (by omega), bnd, z_m1 (by omega), n1]
/-- lines a + 1 .. b go one down -/
theorem g_m156 {f : Nat → LnT} {a b n : Nat} (hb : b < n) (hn : n ≤ 24) (hf : ∀ i, i < n → nLen (f i) ≤ 80) (l1 l2 l3 l4 : Int32) : ∀ (d v : Nat) (M : MS) (k : Nat), v + d = b → a ≤ v → (∀ i, i < n → i < a ∨ v < i → LiA M i (f i)) → (∀ i, a ≤ i → i < v → LiA M i (f (i + 1))) → d < k → ∃ N, LGX11_move_156 k l1 l2 l3 l4 (zI b) (zI v) M = some N ∧ (∀ i, i < n → i < a ∨ b < i → LiA N i (f i)) ∧ (∀ i, a ≤ i → i < b → LiA N i (f (i + 1))) ∧ FLn M N := by
  intro d
  induction d with
  | zero =>
    intro v M k h1 h2 h3 h4 h5
    obtain ⟨k, rfl⟩ : ∃ k', k = k' + 1 := ⟨k - 1, by omega⟩
    have e : v = b := by omega
    subst e
    exact ⟨M, by rw [LGX11_move_156, if_pos ((zN_le (by omega) (by omega)).mpr (by omega))], h3, h4, FLn_refl M⟩
  | succ d ih =>
    intro v M k h1 h2 h3 h4 h5
    obtain ⟨k, rfl⟩ : ∃ k', k = k' + 1 := ⟨k - 1, by omega⟩
    obtain ⟨N, n1, n2, n3, n4⟩ := ih (v + 1) (cpA M 0 (85 * v) 0 (85 * (v + 1)) 85) k (by omega) (by omega) (fun i hi hj => LiA_cp (h3 i hi (by omega)) (hf i hi) (by omega)) (fun i h6 h7 => by
      by_cases q : i = v
      · subst q; exact LiA_to (h3 (i + 1) (by omega) (by omega)) (hf (i + 1) (by omega))
      · exact LiA_cp (h4 i h6 (by omega)) (hf (i + 1) (by omega)) q) (by omega)
    refine ⟨N, ?_, n2, n3, FLn_trans (FLn_cp (by omega)) n4⟩
    rw [LGX11_move_156, if_neg (fun x => by have := (zN_le (by omega) (by omega)).mp x; omega), zN_add1, g_copies (by omega) (by omega) (by omega), bnd, n1]
theorem mvP_l {P : PoT} {a b i : Nat} : (mvP P a b).1 i = if i < b then (if i < a then P.1 i else P.1 (i + 1)) else if i = b then P.1 a else (if i - 1 < a then P.1 (i - 1) else P.1 (i - 1 + 1)) := rfl
/-- one line is moved -/
theorem g_mv1 {M : MS} {P : PoT} (hp : PM M P) (ho : okP P) {a b : Nat} (ha : a < P.2.1) (hb : b < P.2.1) (l1 l2 l3 l4 : Int32) :
    ∃ N, ((LGX11_move_97 FU l1 l2 l3 l4 (zI a) (zI b) 0 M).bind fun x22 =>
      (LGX11_move_129 FU l1 l2 l3 l4 (zI a) (zI b) (zI a) x22).bind fun x28 =>
      (LGX11_move_156 FU l1 l2 l3 l4 (zI b) (zI a) x28).bind fun x32 => g_X11_lays x32 (zI b)) = some N ∧ PM N (mvP P a b) ∧ FT M N := by
  have h24 := ho.1
  have l0 := g_m97 (M := M) (show a < 24 by omega) l1 l2 l3 l4 (zI b) 85 0 FU (by omega) (by simp only [FU]; omega)
  rw [cpA_0] at l0
  have l0' : LGX11_move_97 FU l1 l2 l3 l4 (zI a) (zI b) 0 M = some (cpA M 3 0 0 (85 * a) 85) := l0
  have hl : ∀ i, i < P.2.1 → nLen (P.1 i) ≤ 80 := fun i hi => (ho.2.1 i hi).1
  have q0 : ∀ i, i < P.2.1 → LiA (cpA M 3 0 0 (85 * a) 85) i (P.1 i) := fun i hi => LiE_cp (PE_li hp hi) (hl i hi) (fun j hj => by rw [cpA_A, if_neg (by omega)])
  have q3 : LiE (fun j => mA (cpA M 3 0 0 (85 * a) 85) 3 j) 0 (P.1 a) := LiE_cp (PE_li hp ha) (hl a ha) (fun j hj => by rw [cpA_A, if_pos (by omega), show 85 * a + (0 + j - 0) = 85 * a + j by omega])
  -- the two loops
  obtain ⟨N2, n1, n2, n3⟩ : ∃ N2, ((LGX11_move_129 FU l1 l2 l3 l4 (zI a) (zI b) (zI a) (cpA M 3 0 0 (85 * a) 85)).bind fun x28 => LGX11_move_156 FU l1 l2 l3 l4 (zI b) (zI a) x28) = some N2 ∧ (∀ i, i < P.2.1 → i ≠ b → LiA N2 i ((mvP P a b).1 i)) ∧ FLn (cpA M 3 0 0 (85 * a) 85) N2 := by
    by_cases q : b ≤ a
    · obtain ⟨N, c1, c2, c3, c4⟩ := g_m129 (f := P.1) (b := b) ha h24 hl l1 l2 l3 l4 (zI a) (a - b) a _ FU (by omega) (Nat.le_refl _) (fun i hi _ _ => q0 i hi) (fun i h1 h2 => by omega) (by simp only [FU]; omega)
      refine ⟨N, ?_, fun i hi hne => ?_, c4⟩
      · rw [c1, bnd, show FU = 999999 + 1 from rfl, LGX11_move_156, if_pos ((zN_le (by omega) (by omega)).mpr q)]
      · rw [mvP_l]
        by_cases z : i < b
        · rw [if_pos z, if_pos (by omega)]; exact c2 i hi (Or.inl z)
        · rw [if_neg z, if_neg hne]
          by_cases y : i - 1 < a
          · rw [if_pos y]; exact c3 i (by omega) (by omega)
          · rw [if_neg y, show i - 1 + 1 = i by omega]; exact c2 i hi (Or.inr (by omega))
    · obtain ⟨N, c1, c2, c3, c4⟩ := g_m156 (f := P.1) (a := a) hb h24 hl l1 l2 l3 l4 (b - a) a _ FU (by omega) (Nat.le_refl _) (fun i hi _ => q0 i hi) (fun i h1 h2 => by omega) (by simp only [FU]; omega)
      refine ⟨N, ?_, fun i hi hne => ?_, c4⟩
      · rw [show LGX11_move_129 FU l1 l2 l3 l4 (zI a) (zI b) (zI a) (cpA M 3 0 0 (85 * a) 85) = some (cpA M 3 0 0 (85 * a) 85) by rw [show FU = 999999 + 1 from rfl, LGX11_move_129, if_pos ((zN_le (by omega) (by omega)).mpr (by omega))], bnd, c1]
      · rw [mvP_l]
        by_cases z : i < b
        · rw [if_pos z]
          by_cases y : i < a
          · rw [if_pos y]; exact c2 i hi (Or.inl y)
          · rw [if_neg y]; exact c3 i (by omega) z
        · rw [if_neg z, if_neg hne, if_neg (by omega), show i - 1 + 1 = i by omega]; exact c2 i hi (Or.inr (by omega))
  refine ⟨cpA N2 0 (85 * b) 3 0 85, ?_, PE_of (fun i hi => ?_) ?_ (fun i hi => ?_), ⟨fun j => ?_, fun j => ?_, ?_, ?_⟩⟩
  · rw [l0', bnd, ← Option.bind_assoc, n1, bnd, g_lays (by omega)]
  · have hi' : i < P.2.1 := by have := mvP_n (P := P) (a := a) (b := b) ha; rw [this] at hi; exact hi
    by_cases q : i = b
    · subst q
      have e : (mvP P a i).1 i = P.1 a := by rw [mvP_l, if_neg (Nat.lt_irrefl _), if_pos rfl]
      rw [e]
      refine LiE_cp q3 (hl a ha) (fun j hj => ?_)
      show mA (cpA N2 0 (85 * i) 3 0 85) 0 (85 * i + j) = mA (cpA M 3 0 0 (85 * a) 85) 3 (0 + j)
      rw [cpA_A, if_pos (by omega), n3.2.1 3 _ (by decide), show 0 + (85 * i + j - 85 * i) = 0 + j by omega]
    · exact LiA_cp (n2 i hi' q) ((okP_mv ho ha hb).2.1 i hi).1 q
  · rw [cpA_A, if_neg (by omega), n3.1 _ (by omega), cpA_A, if_neg (by omega), mvP_n ha]; exact PM_n hp
  · rw [cpA_A, if_neg (by omega), n3.1 _ (by omega), cpA_A, if_neg (by omega)]; exact PM_s hp hi
  · rw [cpA_A, if_neg (by omega), n3.2.1 1 _ (by decide), cpA_A, if_neg (by omega)]
  · rw [cpA_A, if_neg (by omega), n3.2.1 2 _ (by decide), cpA_A, if_neg (by omega)]
  · rw [cpA_F, n3.2.2.1, cpA_F]
  · rw [cpA_F, n3.2.2.1, cpA_F]
/-- i of the m lines from a on are moved to b -/
def mvS (P : PoT) (a m b : Nat) : Nat → PoT
  | 0 => P
  | i + 1 => mvP (mvS P a m b i) (if b < a then a + i else a) (if b < a then b + i else b + m - 1)
theorem mvS_ok {P : PoT} (ho : okP P) {a m b : Nat} (h1 : a + m ≤ P.2.1) (h2 : b + m ≤ P.2.1) : ∀ i, i ≤ m → okP (mvS P a m b i) ∧ (mvS P a m b i).2.1 = P.2.1
  | 0, _ => ⟨ho, rfl⟩
  | i + 1, h => by
    obtain ⟨c1, c2⟩ := mvS_ok ho h1 h2 i (by omega)
    have x1 : (if b < a then a + i else a) < (mvS P a m b i).2.1 := by rw [c2]; split <;> omega
    have x2 : (if b < a then b + i else b + m - 1) < (mvS P a m b i).2.1 := by rw [c2]; split <;> omega
    exact ⟨okP_mv c1 x1 x2, (mvP_n x1).trans c2⟩
theorem FT_trans {M N O : MS} (h : FT M N) (g : FT N O) : FT M O := ⟨fun j => (g.1 j).trans (h.1 j), fun j => (g.2.1 j).trans (h.2.1 j), g.2.2.1.trans h.2.2.1, g.2.2.2.trans h.2.2.2⟩
theorem FT_refl (M : MS) : FT M M := ⟨fun _ => rfl, fun _ => rfl, rfl, rfl⟩
theorem g_m54 {P : PoT} (ho : okP P) {a m b : Nat} (h1 : a + m ≤ P.2.1) (h2 : b + m ≤ P.2.1) : ∀ (d i : Nat) (M : MS) (f : Nat), i + d = m → PM M (mvS P a m b i) → d < f → ∃ N, LGX11_move_54 f (zI a) (zI m) (zI b) (zI i) M = some N ∧ PM N (mvS P a m b m) ∧ FT M N := by
  intro d
  have h24 := ho.1
  induction d with
  | zero =>
    intro i M f hi hp hf
    obtain ⟨f, rfl⟩ : ∃ f', f = f' + 1 := ⟨f - 1, by omega⟩
    have e : i = m := by omega
    subst e
    exact ⟨M, by rw [LGX11_move_54, if_pos ((zN_le (by omega) (by omega)).mpr (Nat.le_refl _))], hp, FT_refl M⟩
  | succ d ih =>
    intro i M f hi hp hf
    obtain ⟨f, rfl⟩ : ∃ f', f = f' + 1 := ⟨f - 1, by omega⟩
    obtain ⟨c1, c2⟩ := mvS_ok ho h1 h2 i (by omega)
    have x1 : (if b < a then a + i else a) < (mvS P a m b i).2.1 := by rw [c2]; split <;> omega
    have x2 : (if b < a then b + i else b + m - 1) < (mvS P a m b i).2.1 := by rw [c2]; split <;> omega
    have eL : (if zI (a : Int) ≤ zI b then some (zI (a : Int)) else some (zI a + zI i)) = some (zI (((if b < a then a + i else a : Nat)) : Int)) := by
      by_cases q : b < a
      · rw [if_neg (fun x => by have := (zN_le (by omega) (by omega)).mp x; omega), if_pos q, zN_add]
      · rw [if_pos ((zN_le (by omega) (by omega)).mpr (by omega)), if_neg q]
    have eG : (if zI (a : Int) ≤ zI b then some ((zI (b : Int) + zI m) - 1) else some (zI b + zI i)) = some (zI (((if b < a then b + i else b + m - 1 : Nat)) : Int)) := by
      by_cases q : b < a
      · rw [if_neg (fun x => by have := (zN_le (by omega) (by omega)).mp x; omega), if_pos q, zN_add]
      · rw [if_pos ((zN_le (by omega) (by omega)).mpr (by omega)), if_neg q, zN_add, zN_sub1 (by omega)]
    obtain ⟨N1, n1, n2, n3⟩ := g_mv1 hp c1 x1 x2 (zI a) (zI m) (zI b) (zI i)
    obtain ⟨N, m1, m2, m3⟩ := ih (i + 1) N1 f (by omega) n2 (by omega)
    refine ⟨N, ?_, m2, FT_trans n3 m3⟩
    rw [LGX11_move_54, if_neg (fun x => by have := (zN_le (by omega) (by omega)).mp x; omega), eL, bnd, eG, bnd]
    have n1' := congrArg (fun o => o.bind fun q36 => LGX11_move_54 f (zI a) (zI m) (zI b) (zI i + 1) q36) n1
    simp only [Option.bind_assoc] at n1'
    rw [n1', bnd, zN_add1, m1]
theorem g_stO1 {M : MS} {P : PoT} (hp : PM M P) (ho : okP P) {k : Nat} (hk : k < P.2.1) : ∀ (d i f : Nat), i + d = k + 1 → d < f → LGX11_stanzaOf_4 f M (zI k) (zI ((szN P i : Nat) - 1 : Int)) (zI i) = some (zI ((szN P (k + 1) : Nat) - 1 : Int)) := by
  intro d
  have h24 := ho.1
  induction d with
  | zero =>
    intro i f hi hf
    obtain ⟨f, rfl⟩ : ∃ f', f = f' + 1 := ⟨f - 1, by omega⟩
    have e : i = k + 1 := by omega
    subst e
    rw [LGX11_stanzaOf_4, if_pos ((zN_lt (by omega) (by omega)).mpr (by omega))]
  | succ d ih =>
    intro i f hi hf
    obtain ⟨f, rfl⟩ : ∃ f', f = f' + 1 := ⟨f - 1, by omega⟩
    have ex : (if (if bgS P i = true then (1 : Int32) else 0) = 0 then some (0 : Int32) else some 1) = some (zI ((if bgS P i = true then 1 else 0 : Nat) : Int)) := by
      cases bgS P i <;> rfl
    rw [LGX11_stanzaOf_4, if_neg (fun x => by have := (zN_lt (by omega) (by omega)).mp x; omega), g_bg hp ho (by omega), bnd, ex, bnd, zN_add1, zI_add]
    have e2 : ((szN P i : Nat) - 1 : Int) + ((if bgS P i = true then 1 else 0 : Nat) : Int) = ((szN P (i + 1) : Nat) - 1 : Int) := by
      rw [szN]; cases bgS P i
      · simp
      · simp
    rw [e2]
    exact ih (i + 1) f (by omega) (by omega)
theorem g_stanzaOf {M : MS} {P : PoT} (hp : PM M P) (ho : okP P) {k : Nat} (hk : k < P.2.1) : g_X11_stanzaOf M (zI k) = some (zI (szO P k)) := by
  have h24 := ho.1
  have e := g_stO1 hp ho hk (k + 1) 0 FU (by omega) (by simp only [FU]; omega)
  have e' : LGX11_stanzaOf_4 FU M (zI k) (-1) 0 = some (zI ((szN P (k + 1) : Nat) - 1 : Int)) := e
  have hz := szN_le P (k + 1)
  rw [g_X11_stanzaOf, e', bnd]; unfold szO; congr 2; omega
theorem g_stanzas {M : MS} {P : PoT} (hp : PM M P) (ho : okP P) : g_X11_stanzas M = some (zI (szN P P.2.1)) := by
  have h24 := ho.1
  have h40 : ix (2040 : Int32) 2046 = some 2040 := rfl
  rw [g_X11_stanzas, h40, bnd, PM_n hp]
  by_cases q : P.2.1 = 0
  · rw [if_neg (fun x => x (by rw [q]; rfl)), q]; rfl
  · have hz := szN_le P (P.2.1 - 1 + 1)
    have ne : ¬ zI (P.2.1 : Int) = 0 := fun x => q ((zN_eq (b := 0) (by omega) (by omega)).mp x)
    rw [if_pos ne, bnd, PM_n hp, zN_sub1 (by omega), g_stanzaOf hp ho (by omega), bnd, zN_add1]
    unfold szO
    rw [show P.2.1 - 1 + 1 = P.2.1 by omega] at hz ⊢
    congr 2; omega
theorem g_move {M : MS} {P : PoT} {hs : Nat → PoT} {c : Nat} {T : Nat → Int32} {n : Nat} (h : MI M P hs c T n) (za zm zb : Int) (a1 : -2147483648 ≤ za) (a2 : za ≤ 2147483647) (b1 : -2147483648 ≤ zm) (b2 : zm ≤ 2147483647) (c1 : -2147483648 ≤ zb) (c2 : zb ≤ 2147483647) :
    ∃ r N, g_X11_move M (zI za) (zI zm) (zI zb) = some (r, N) ∧
      ((¬ (1 ≤ zm ∧ 0 ≤ za ∧ za + zm ≤ P.2.1 ∧ 0 ≤ zb ∧ zb + zm ≤ P.2.1) → r = -2 ∧ MI N P hs c T n) ∧
       (1 ≤ zm ∧ 0 ≤ za ∧ za + zm ≤ P.2.1 ∧ 0 ≤ zb ∧ zb + zm ≤ P.2.1 → r = zI (szN (mvS P za.toNat zm.toNat zb.toNat zm.toNat) P.2.1) ∧ MI N (mvS P za.toNat zm.toNat zb.toNat zm.toNat) (hsK hs c P) (cK c) T n)) := by
  obtain ⟨hp, ho, hh, ht⟩ := id h
  have h24 := ho.1
  have h40 : ix (2040 : Int32) 2046 = some 2040 := rfl
  have bad : ∀ r N, r = -2 → N = M → ¬ (1 ≤ zm ∧ 0 ≤ za ∧ za + zm ≤ P.2.1 ∧ 0 ≤ zb ∧ zb + zm ≤ P.2.1) → ((¬ (1 ≤ zm ∧ 0 ≤ za ∧ za + zm ≤ P.2.1 ∧ 0 ≤ zb ∧ zb + zm ≤ P.2.1) → r = -2 ∧ MI N P hs c T n) ∧
       (1 ≤ zm ∧ 0 ≤ za ∧ za + zm ≤ P.2.1 ∧ 0 ≤ zb ∧ zb + zm ≤ P.2.1 → r = zI (szN (mvS P za.toNat zm.toNat zb.toNat zm.toNat) P.2.1) ∧ MI N (mvS P za.toNat zm.toNat zb.toNat zm.toNat) (hsK hs c P) (cK c) T n)) := by
    intro r N e1 e2 e3
    subst e1; subst e2
    exact ⟨fun _ => ⟨rfl, h⟩, fun x => absurd x e3⟩
  rw [g_X11_move, g_isLine hp ho za a1 a2, bnd]
  by_cases q : 0 ≤ za ∧ za < P.2.1
  · rw [if_pos q, if_neg (by decide), h40, bnd, PM_n hp, zI_sub, g_in, bnd]
    have e1 : (1 ≤ zI zm ∧ zI zm ≤ zI ((P.2.1 : Int) - za)) ↔ (1 ≤ zm ∧ zm ≤ P.2.1 - za) := by
      rw [show (1 : Int32) = zI 1 from rfl, zle (by omega) (by omega) (by omega) (by omega), zle (by omega) (by omega) (by omega) (by omega)]
    by_cases q2 : 1 ≤ zm ∧ zm ≤ P.2.1 - za
    · rw [if_pos (e1.mpr q2), if_neg (by decide), bnd, PM_n hp, zI_sub, g_in, bnd]
      have e2 : (0 ≤ zI zb ∧ zI zb ≤ zI ((P.2.1 : Int) - zm)) ↔ (0 ≤ zb ∧ zb ≤ P.2.1 - zm) := by
        rw [show (0 : Int32) = zI 0 from rfl, zle (by omega) (by omega) (by omega) (by omega), zle (by omega) (by omega) (by omega) (by omega)]
      by_cases q3 : 0 ≤ zb ∧ zb ≤ P.2.1 - zm
      · rw [if_pos (e2.mpr q3), if_pos (by decide)]
        obtain ⟨N1, k1, k2, k3, k4, k5⟩ := g_keeps hp ho hh
        obtain ⟨a, rfl⟩ : ∃ p : Nat, za = p := ⟨za.toNat, by omega⟩
        obtain ⟨m, rfl⟩ : ∃ p : Nat, zm = p := ⟨zm.toNat, by omega⟩
        obtain ⟨b, rfl⟩ : ∃ p : Nat, zb = p := ⟨zb.toNat, by omega⟩
        have hP1 : PM N1 P := PM_c hp (fun j => k3 0 j (by decide))
        obtain ⟨N, m1, m2, m3⟩ := g_m54 ho (a := a) (m := m) (b := b) (by omega) (by omega) m 0 N1 FU (by omega) hP1 (by simp only [FU]; omega)
        obtain ⟨o1, o2⟩ := mvS_ok ho (a := a) (m := m) (b := b) (by omega) (by omega) m (Nat.le_refl _)
        have m1' : LGX11_move_54 FU (zI a) (zI m) (zI b) 0 N1 = some N := m1
        have es := g_stanzas m2 o1
        rw [o2] at es
        rw [k1, bnd, m1', bnd, es, bnd]
        exact ⟨_, _, rfl, fun x => absurd (show (1 : Int) ≤ m ∧ (0 : Int) ≤ a ∧ (a : Int) + m ≤ P.2.1 ∧ (0 : Int) ≤ b ∧ (b : Int) + m ≤ P.2.1 by omega) x, fun _ => ⟨rfl, MI_of k2 (MT_c ht (fun j => k3 2 _ (by decide)) (k4 4 (by decide))) m3 m2 o1⟩⟩
      · rw [if_neg (fun x => q3 (e2.mp x)), if_neg (by decide)]
        exact ⟨_, _, rfl, bad _ _ rfl rfl (by omega)⟩
    · rw [if_neg (fun x => q2 (e1.mp x)), if_pos rfl]
      exact ⟨_, _, rfl, bad _ _ rfl rfl (by omega)⟩
  · rw [if_neg q, if_pos rfl]
    exact ⟨_, _, rfl, bad _ _ rfl rfl (by omega)⟩
/-- a line's mark is turned -/
def tgL (l : LnT) (b : Bool) : LnT := (nLen l, nCnt l, nLt l, nSt l, (if b = true then 1 - nHf l else nHf l), (if b = true then nLa l else 1 - nLa l), nB l, nE l)
theorem okL_tg {l : LnT} (h : okL l) (b : Bool) : okL (tgL l b) := by
  obtain ⟨h1, h2, h3, h4, h5, h6, h7⟩ := h
  refine ⟨h1, h2, h3, h4, h5, ?_, ?_⟩
  · show (if b = true then 1 - nHf l else nHf l) ≤ 1
    split <;> omega
  · show (if b = true then nLa l else 1 - nLa l) ≤ 1
    split <;> omega
theorem g_toggle {M : MS} {P : PoT} {hs : Nat → PoT} {c : Nat} {T : Nat → Int32} {n : Nat} (h : MI M P hs c T n) (z : Int) (z1 : -2147483648 ≤ z) (z2 : z ≤ 2147483647) (b : Bool) :
    ∃ r N, g_X11_toggle M (zI z) (if b = true then 1 else 0) = some (r, N) ∧
      ((¬ (0 ≤ z ∧ z < P.2.1) → r = -2 ∧ MI N P hs c T n) ∧
       (0 ≤ z ∧ z < P.2.1 → r = zI ((if b = true then 1 - nHf (P.1 z.toNat) else 1 - nLa (P.1 z.toNat) : Nat) : Int) ∧ MI N (putL P z.toNat (tgL (P.1 z.toNat) b)) (hsK hs c P) (cK c) T n)) := by
  obtain ⟨hp, ho, hh, ht⟩ := id h
  have h24 := ho.1
  rw [g_X11_toggle, g_isLine hp ho z z1 z2, bnd]
  by_cases q : 0 ≤ z ∧ z < P.2.1
  · rw [if_pos q, if_pos (by decide)]
    obtain ⟨N1, k1, k2, k3, k4, k5⟩ := g_keeps hp ho hh
    obtain ⟨p, rfl⟩ : ∃ p : Nat, z = p := ⟨z.toNat, by omega⟩
    have hpn : p < P.2.1 := by omega
    have hP1 : PM N1 P := PM_c hp (fun j => k3 0 j (by decide))
    obtain ⟨l0, l1, l2, l3, l4, l5⟩ := PM_l hP1 hpn
    obtain ⟨o1, o2, o3, o4, o5, o6, o7⟩ := ho.2.1 p hpn
    have e6 : (if (if b = true then (1 : Int32) else 0) = 0 then some (4 : Int32) else some 3) = some (zI ((if b = true then 3 else 4 : Nat) : Int)) := by cases b <;> rfl
    have e85 : (85 : Int32) * zI p + zI ((if b = true then 3 else 4 : Nat) : Int) = zI ((85 * p + (if b = true then 3 else 4) : Nat) : Int) := by
      rw [show (85 : Int32) = zI ((85 : Nat) : Int) from rfl, zN_mul, zN_add]
    have hv : mA N1 0 (85 * p + (if b = true then 3 else 4)) = zI ((if b = true then nHf (P.1 p) else nLa (P.1 p) : Nat) : Int) := by
      cases b
      · exact l4
      · exact l3
    have hv1 : (if b = true then nHf (P.1 p) else nLa (P.1 p)) ≤ 1 := by split <;> omega
    have e1 : (1 : Int32) - zI ((if b = true then nHf (P.1 p) else nLa (P.1 p) : Nat) : Int) = zI ((1 - (if b = true then nHf (P.1 p) else nLa (P.1 p)) : Nat) : Int) := zN_sub (a := 1) hv1
    have hix : 85 * p + (if b = true then 3 else 4) < 2046 := by split <;> omega
    rw [k1, bnd, e6, bnd, e85, ix_l _ _ hix (by omega), bnd, bnd, bnd, hv, e1]
    refine ⟨_, _, rfl, fun x => absurd q x, fun _ => ⟨?_, ?_⟩⟩
    · rw [mA_eA, if_pos ⟨rfl, rfl⟩]; cases b <;> rfl
    · refine MI_of k2 (MT_c ht (fun j => k3 2 _ (by decide)) (k4 4 (by decide))) ⟨fun j => by rw [mA_eA, if_neg (by omega)], fun j => by rw [mA_eA, if_neg (by omega)], rfl, rfl⟩ (PE_put (A := fun j => mA N1 0 j) hP1 ho o1 ?_ (fun j hj => ?_) (by omega)) (okP_put ho (okL_tg (ho.2.1 p hpn) b))
      · have hlen : nLen (tgL (P.1 p) b) = nLen (P.1 p) := rfl
        cases b
        · refine ⟨?_, ?_, ?_, ?_, ?_, fun i hi => ?_⟩
          · show mA (eA N1 0 (85 * p + 4) _) 0 (85 * p) = _; rw [mA_eA, if_neg (by omega)]; exact l0
          · show mA (eA N1 0 (85 * p + 4) _) 0 (85 * p + 1) = _; rw [mA_eA, if_neg (by omega)]; exact l1
          · show mA (eA N1 0 (85 * p + 4) _) 0 (85 * p + 2) = _; rw [mA_eA, if_neg (by omega)]; exact l2
          · show mA (eA N1 0 (85 * p + 4) _) 0 (85 * p + 3) = _; rw [mA_eA, if_neg (by omega)]; exact l3
          · show mA (eA N1 0 (85 * p + 4) _) 0 (85 * p + 4) = _; rw [mA_eA, if_pos ⟨rfl, rfl⟩]; rfl
          · have hi' : i < nLen (P.1 p) := hi
            show mA (eA N1 0 (85 * p + 4) _) 0 (85 * p + 5 + i) = _; rw [mA_eA, if_neg (by omega)]; exact l5 i hi'
        · refine ⟨?_, ?_, ?_, ?_, ?_, fun i hi => ?_⟩
          · show mA (eA N1 0 (85 * p + 3) _) 0 (85 * p) = _; rw [mA_eA, if_neg (by omega)]; exact l0
          · show mA (eA N1 0 (85 * p + 3) _) 0 (85 * p + 1) = _; rw [mA_eA, if_neg (by omega)]; exact l1
          · show mA (eA N1 0 (85 * p + 3) _) 0 (85 * p + 2) = _; rw [mA_eA, if_neg (by omega)]; exact l2
          · show mA (eA N1 0 (85 * p + 3) _) 0 (85 * p + 3) = _; rw [mA_eA, if_pos ⟨rfl, rfl⟩]; rfl
          · show mA (eA N1 0 (85 * p + 3) _) 0 (85 * p + 4) = _; rw [mA_eA, if_neg (by omega)]; exact l4
          · have hi' : i < nLen (P.1 p) := hi
            show mA (eA N1 0 (85 * p + 3) _) 0 (85 * p + 5 + i) = _; rw [mA_eA, if_neg (by omega)]; exact l5 i hi'
      · show mA (eA N1 0 _ _) 0 j = mA N1 0 j
        rw [mA_eA, if_neg (fun x => by have := x.2; cases b <;> simp at this <;> omega)]
  · rw [if_neg q, if_neg (by decide)]
    exact ⟨_, _, rfl, fun _ => ⟨rfl, h⟩, fun x => absurd x q⟩
/-- the settings' bounds; a setting is set -/
def sLo (i : Nat) : Nat := if i = 0 then 12 else if i = 1 then 4 else 0
def sHi (i : Nat) : Nat := if i = 0 then 60 else if i = 2 then 6 else if i = 3 then 8 else 30
def setP (P : PoT) (i v : Nat) : PoT := (P.1, P.2.1, upN P.2.2 i v)
theorem okP_set {P : PoT} (ho : okP P) {i v : Nat} (hi : i < 5) (h1 : sLo i ≤ v) (h2 : v ≤ sHi i) : okP (setP P i v) := by
  obtain ⟨a, b, s1, s2, s3, s4, s5, s6, s7⟩ := ho
  refine ⟨a, b, ?_⟩
  unfold sLo sHi at *
  rcases (show i = 0 ∨ i = 1 ∨ i = 2 ∨ i = 3 ∨ i = 4 by omega) with rfl | rfl | rfl | rfl | rfl <;> simp at h1 h2 <;> refine ⟨?_, ?_, ?_, ?_, ?_, ?_, ?_⟩ <;> simp [setP, upN] <;> omega
theorem g_set {M : MS} {P : PoT} {hs : Nat → PoT} {c : Nat} {T : Nat → Int32} {n : Nat} (h : MI M P hs c T n) (z w : Int) (z1 : -2147483648 ≤ z) (z2 : z ≤ 2147483647) (w1 : -2147483648 ≤ w) (w2 : w ≤ 2147483647) :
    ∃ r N, g_X11_set M (zI z) (zI w) = some (r, N) ∧
      ((¬ (0 ≤ z ∧ z < 5 ∧ sLo z.toNat ≤ w ∧ w ≤ sHi z.toNat) → r = -2 ∧ MI N P hs c T n) ∧
       (0 ≤ z ∧ z < 5 ∧ sLo z.toNat ≤ w ∧ w ≤ sHi z.toNat → r = zI (P.2.2 z.toNat) ∧ MI N (setP P z.toNat w.toNat) (hsK hs c P) (cK c) T n)) := by
  obtain ⟨hp, ho, hh, ht⟩ := id h
  have e0 : (zI z = 0) ↔ z = 0 := zeq (b := 0) z1 z2 (by omega) (by omega)
  have e2 : (zI z = 2) ↔ z = 2 := zeq (b := 2) z1 z2 (by omega) (by omega)
  have e3 : (zI z = 3) ↔ z = 3 := zeq (b := 3) z1 z2 (by omega) (by omega)
  have e1 : (zI z = 1) ↔ z = 1 := zeq (b := 1) z1 z2 (by omega) (by omega)
  have hin : (0 ≤ zI z ∧ zI z ≤ 4) ↔ (0 ≤ z ∧ z < 5) := by
    rw [show (0 : Int32) = zI 0 from rfl, show (4 : Int32) = zI 4 from rfl, zle (by omega) (by omega) (by omega) (by omega), zle (by omega) (by omega) (by omega) (by omega)]; omega
  rw [g_X11_set]
  by_cases q : 0 ≤ z ∧ z < 5
  · obtain ⟨i, rfl⟩ : ∃ i : Nat, z = i := ⟨z.toNat, by omega⟩
    have hi : i < 5 := by omega
    have eH : (if ¬ zI (i : Int) = 0 then (if ¬ zI (i : Int) = 2 then (if ¬ zI (i : Int) = 3 then some (30 : Int32) else some 8) else some 6) else some 60) = some (zI (sHi i)) := by
      rcases (show i = 0 ∨ i = 1 ∨ i = 2 ∨ i = 3 ∨ i = 4 by omega) with rfl | rfl | rfl | rfl | rfl <;> rfl
    have eLo : (if ¬ zI (i : Int) = 0 then (if ¬ zI (i : Int) = 1 then some (0 : Int32) else some 4) else some 12) = some (zI (sLo i)) := by
      rcases (show i = 0 ∨ i = 1 ∨ i = 2 ∨ i = 3 ∨ i = 4 by omega) with rfl | rfl | rfl | rfl | rfl <;> rfl
    have hlo : sLo i ≤ 12 := by unfold sLo; split <;> (try split) <;> omega
    have hhi : sHi i ≤ 60 := by unfold sHi; split <;> (try split) <;> (try split) <;> omega
    have hw : (zI (sLo i : Int) ≤ zI w ∧ zI w ≤ zI (sHi i)) ↔ ((sLo i : Int) ≤ w ∧ w ≤ sHi i) := by
      rw [zle (by omega) (by omega) (by omega) (by omega), zle (by omega) (by omega) (by omega) (by omega)]
    rw [eH, bnd, g_in, bnd, if_pos (hin.mpr q), if_neg (by decide), eLo, bnd, g_in, bnd]
    by_cases y : (sLo i : Int) ≤ w ∧ w ≤ sHi i
    · rw [if_pos (hw.mpr y), if_pos (by decide)]
      obtain ⟨N1, k1, k2, k3, k4, k5⟩ := g_keeps hp ho hh
      obtain ⟨v, rfl⟩ : ∃ v : Nat, w = v := ⟨w.toNat, by omega⟩
      have hP1 : PM N1 P := PM_c hp (fun j => k3 0 j (by decide))
      have e41 : (2041 : Int32) + zI i = zI ((2041 + i : Nat) : Int) := zI_add 2041 i
      rw [k1, bnd, e41, ix_l _ _ (by omega) (by omega), bnd, bnd, PM_s hP1 hi]
      refine ⟨_, _, rfl, fun x => absurd ⟨q.1, q.2, y.1, y.2⟩ x, fun _ => ⟨rfl, ?_⟩⟩
      refine MI_of k2 (MT_c ht (fun j => k3 2 _ (by decide)) (k4 4 (by decide))) ⟨fun j => by rw [mA_eA, if_neg (by omega)], fun j => by rw [mA_eA, if_neg (by omega)], rfl, rfl⟩ (PE_of (fun k hk => ?_) ?_ (fun j hj => ?_)) (okP_set ho hi (by omega) (by omega))
      · have hk' : k < P.2.1 := hk
        have h24 := ho.1
        exact LiE_cp (PE_li (P := P) hP1 hk') (ho.2.1 k hk').1 (fun j hj => by rw [mA_eA, if_neg (by omega)])
      · rw [mA_eA, if_neg (by omega)]; exact PM_n (P := P) hP1
      · show mA (eA N1 0 (2041 + i) (zI v)) 0 (2041 + j) = zI (((if j = i then v else P.2.2 j : Nat)) : Int)
        by_cases x : j = i
        · rw [mA_eA, if_pos (by omega), if_pos x]
        · rw [mA_eA, if_neg (by omega), if_neg x]; exact PM_s hP1 hj
    · rw [if_neg (fun x => y (hw.mp x)), if_neg (by decide)]
      exact ⟨_, _, rfl, fun _ => ⟨rfl, h⟩, fun x => absurd ⟨x.2.2.1, x.2.2.2⟩ y⟩
  · have eB : ∀ o : Option Int32, ∀ v, o = some v → (o.bind fun (x1 : Int32) => (g_X11_in M (zI z) 0 4).bind fun q5 => if q5 = 0 then some ((-2 : Int32), M) else (if ¬ zI z = 0 then (if ¬ zI z = 1 then some (0 : Int32) else some 4) else some 12).bind fun (x8 : Int32) => (g_X11_in M (zI w) x8 x1).bind fun q11 => if ¬ q11 = 0 then (g_X11_keeps M).bind fun q14 => (ix (2041 + zI z) 2046).bind fun j16 => (ix (2041 + zI z) 2046).bind fun j18 => some ((mA q14 0 j16), (eA q14 0 j18 (zI w))) else some ((-2), M)) = some (-2, M) := by
      intro o v e
      rw [e, bnd, g_in, bnd, if_neg (fun x => q (hin.mp x)), if_pos rfl]
    refine ⟨-2, M, ?_, fun _ => ⟨rfl, h⟩, fun x => absurd ⟨x.1, x.2.1⟩ q⟩
    by_cases y0 : z = 0
    · exact eB _ 60 (if_neg (fun x => x (e0.mpr y0)))
    · by_cases y2 : z = 2
      · exact eB _ 6 (by rw [if_pos (fun x => y0 (e0.mp x)), if_neg (fun x => x (e2.mpr y2))])
      · by_cases y3 : z = 3
        · exact eB _ 8 (by rw [if_pos (fun x => y0 (e0.mp x)), if_pos (fun x => y2 (e2.mp x)), if_neg (fun x => x (e3.mpr y3))])
        · exact eB _ 30 (by rw [if_pos (fun x => y0 (e0.mp x)), if_pos (fun x => y2 (e2.mp x)), if_pos (fun x => y3 (e3.mp x))])

set_option maxRecDepth 100000 in
set_option maxHeartbeats 4000000 in
theorem e_X11_in {σ : St} {t : Nat} {M : MS} {p1 : Int32} {p2 : Int32} {p3 : Int32} {ρ : Int32} (R : MR σ t) (h : g_X11_in M p1 p2 p3 = some ρ) : f_X11_in (ij σ t M) p1 p2 p3 = some ((fun r => r) ρ) := by
  unfold g_X11_in at h
  unfold f_X11_in
  try simp only [ij_dn R, bnd]
  refine if_to h (fun c1 h => ?_) (fun c1 h => ?_)
  · obtain rfl := Option.some.inj h
    rfl
  · refine if_to h (fun c2 h => ?_) (fun c2 h => ?_)
    · obtain rfl := Option.some.inj h
      rfl
    · obtain rfl := Option.some.inj h
      rfl
set_option maxRecDepth 100000 in
set_option maxHeartbeats 4000000 in
theorem e_X11_lesser {σ : St} {t : Nat} {M : MS} {p1 : Int32} {p2 : Int32} {ρ : Int32} (R : MR σ t) (h : g_X11_lesser M p1 p2 = some ρ) : f_X11_lesser (ij σ t M) p1 p2 = some ((fun r => r) ρ) := by
  unfold g_X11_lesser at h
  unfold f_X11_lesser
  try simp only [ij_dn R, bnd]
  refine if_to h (fun c1 h => ?_) (fun c1 h => ?_)
  · obtain rfl := Option.some.inj h
    rfl
  · obtain rfl := Option.some.inj h
    rfl
set_option maxRecDepth 100000 in
set_option maxHeartbeats 4000000 in
theorem eLGX11_keeps_11 {σ : St} {t : Nat}  (R : MR σ t) : ∀ (n : Nat) (v1 : Int32) (μ : MS) y, LGX11_keeps_11 n v1 μ = some y → LX11_keeps_11 n t v1 (ij σ t μ) = some ((fun w => ij σ t w) y) := by
  intro n
  induction n with
  | zero => intro _ _ _ h; cases (show (none : Option _) = some _ from h)
  | succ n ihx3 =>
    intro v1 μ yx3 h
    rw [LGX11_keeps_11] at h
    rw [LX11_keeps_11]
    try simp only [ij_dn R, ij_r0 R, ij_d0 R, ij_e0 R, ij_l0 R, ij_A0, ij_stA0, ij_r1 R, ij_d1 R, ij_e1 R, ij_l1 R, ij_A1, ij_stA1, ij_I2, ij_stI2, bnd]
    refine if_to h (fun c4 h => ?_) (fun c4 h => ?_)
    · obtain rfl := Option.some.inj h
      rfl
    · obtain ⟨j5, g6, h⟩ := bind_ok h
      refine bind_to g6 ?_
      obtain ⟨j7, g8, h⟩ := bind_ok h
      refine bind_to g8 ?_
      exact ihx3 _ _ _ h
set_option maxRecDepth 100000 in
set_option maxHeartbeats 4000000 in
theorem eLGX11_keeps_52 {σ : St} {t : Nat}  (R : MR σ t) : ∀ (n : Nat) (v1 : Int32) (μ : MS) y, LGX11_keeps_52 n v1 μ = some y → LX11_keeps_52 n t v1 (ij σ t μ) = some ((fun w => ij σ t w) y) := by
  intro n
  induction n with
  | zero => intro _ _ _ h; cases (show (none : Option _) = some _ from h)
  | succ n ihx9 =>
    intro v1 μ yx9 h
    rw [LGX11_keeps_52] at h
    rw [LX11_keeps_52]
    try simp only [ij_dn R, ij_r0 R, ij_d0 R, ij_e0 R, ij_l0 R, ij_A0, ij_stA0, ij_r1 R, ij_d1 R, ij_e1 R, ij_l1 R, ij_A1, ij_stA1, ij_I2, ij_stI2, bnd]
    refine if_to h (fun c10 h => ?_) (fun c10 h => ?_)
    · obtain rfl := Option.some.inj h
      rfl
    · obtain ⟨j11, g12, h⟩ := bind_ok h
      refine bind_to g12 ?_
      obtain ⟨j13, g14, h⟩ := bind_ok h
      refine bind_to g14 ?_
      exact ihx9 _ _ _ h
set_option maxRecDepth 100000 in
set_option maxHeartbeats 4000000 in
theorem e_X11_keeps {σ : St} {t : Nat} {M : MS}  {ρ : MS} (R : MR σ t) (h : g_X11_keeps M  = some ρ) : f_X11_keeps (ij σ t M) t  = some ((fun r => ij σ t r) ρ) := by
  unfold g_X11_keeps at h
  unfold f_X11_keeps
  try simp only [ij_dn R, ij_r0 R, ij_d0 R, ij_e0 R, ij_l0 R, ij_A0, ij_stA0, ij_r1 R, ij_d1 R, ij_e1 R, ij_l1 R, ij_A1, ij_stA1, ij_I2, ij_stI2, bnd]
  obtain ⟨x1, hxx1, h⟩ := bind_ok h
  refine bind_to (a := (fun (w : MS) => ij σ t w) x1) ?_ ?_
  · have h := hxx1
    refine if_to h (fun c2 h => ?_) (fun c2 h => ?_)
    · obtain rfl := Option.some.inj h
      rfl
    · obtain ⟨x3, hxx3, h⟩ := bind_ok h
      refine bind_to (eLGX11_keeps_11 R FU _ _ _ hxx3) ?_
      try simp only [ij_dn R, ij_r0 R, ij_d0 R, ij_e0 R, ij_l0 R, ij_A0, ij_stA0, ij_r1 R, ij_d1 R, ij_e1 R, ij_l1 R, ij_A1, ij_stA1, ij_I2, ij_stI2, bnd]
      obtain rfl := Option.some.inj h
      rfl
  · try simp only [ij_dn R, ij_r0 R, ij_d0 R, ij_e0 R, ij_l0 R, ij_A0, ij_stA0, ij_r1 R, ij_d1 R, ij_e1 R, ij_l1 R, ij_A1, ij_stA1, ij_I2, ij_stI2, bnd]
    obtain ⟨x9, hxx9, h⟩ := bind_ok h
    refine bind_to (eLGX11_keeps_52 R FU _ _ _ hxx9) ?_
    try simp only [ij_dn R, ij_r0 R, ij_d0 R, ij_e0 R, ij_l0 R, ij_A0, ij_stA0, ij_r1 R, ij_d1 R, ij_e1 R, ij_l1 R, ij_A1, ij_stA1, ij_I2, ij_stI2, bnd]
    obtain rfl := Option.some.inj h
    rfl
set_option maxRecDepth 100000 in
set_option maxHeartbeats 4000000 in
theorem eLGX11_undo_22 {σ : St} {t : Nat}  (R : MR σ t) : ∀ (n : Nat) (v1 : Int32) (μ : MS) y, LGX11_undo_22 n v1 μ = some y → LX11_undo_22 n t v1 (ij σ t μ) = some ((fun w => ij σ t w) y) := by
  intro n
  induction n with
  | zero => intro _ _ _ h; cases (show (none : Option _) = some _ from h)
  | succ n ihx2 =>
    intro v1 μ yx2 h
    rw [LGX11_undo_22] at h
    rw [LX11_undo_22]
    try simp only [ij_dn R, ij_r0 R, ij_d0 R, ij_e0 R, ij_l0 R, ij_A0, ij_stA0, ij_r1 R, ij_d1 R, ij_e1 R, ij_l1 R, ij_A1, ij_stA1, ij_I2, ij_stI2, bnd]
    refine if_to h (fun c3 h => ?_) (fun c3 h => ?_)
    · obtain rfl := Option.some.inj h
      rfl
    · obtain ⟨j4, g5, h⟩ := bind_ok h
      refine bind_to g5 ?_
      obtain ⟨j6, g7, h⟩ := bind_ok h
      refine bind_to g7 ?_
      exact ihx2 _ _ _ h
set_option maxRecDepth 100000 in
set_option maxHeartbeats 4000000 in
theorem e_X11_undo {σ : St} {t : Nat} {M : MS}  {ρ : Int32 × MS} (R : MR σ t) (h : g_X11_undo M  = some ρ) : f_X11_undo (ij σ t M) t  = some ((fun r => (r.1, ij σ t r.2)) ρ) := by
  unfold g_X11_undo at h
  unfold f_X11_undo
  try simp only [ij_dn R, ij_r0 R, ij_d0 R, ij_e0 R, ij_l0 R, ij_A0, ij_stA0, ij_r1 R, ij_d1 R, ij_e1 R, ij_l1 R, ij_A1, ij_stA1, ij_I2, ij_stI2, bnd]
  refine if_to h (fun c1 h => ?_) (fun c1 h => ?_)
  · obtain ⟨x2, hxx2, h⟩ := bind_ok h
    refine bind_to (eLGX11_undo_22 R FU _ _ _ hxx2) ?_
    try simp only [ij_dn R, ij_r0 R, ij_d0 R, ij_e0 R, ij_l0 R, ij_A0, ij_stA0, ij_r1 R, ij_d1 R, ij_e1 R, ij_l1 R, ij_A1, ij_stA1, ij_I2, ij_stI2, bnd]
    obtain rfl := Option.some.inj h
    rfl
  · obtain rfl := Option.some.inj h
    rfl
set_option maxRecDepth 100000 in
set_option maxHeartbeats 4000000 in
theorem e_X11_type {σ : St} {t : Nat} {M : MS} {p1 : Int32} {ρ : Int32 × MS} (R : MR σ t) (h : g_X11_type M p1 = some ρ) : f_X11_type (ij σ t M) t p1 = some ((fun r => (r.1, ij σ t r.2)) ρ) := by
  unfold g_X11_type at h
  unfold f_X11_type
  try simp only [ij_dn R, ij_r2 R, ij_d2 R, ij_e2 R, ij_l2 R, ij_A2, ij_stA2, ij_I4, ij_stI4, bnd]
  obtain ⟨q1, g2, h⟩ := bind_ok h
  refine bind_to (e_X11_in R g2) ?_
  refine if_to h (fun c3 h => ?_) (fun c3 h => ?_)
  · refine if_to h (fun c4 h => ?_) (fun c4 h => ?_)
    · obtain ⟨j5, g6, h⟩ := bind_ok h
      refine bind_to g6 ?_
      obtain rfl := Option.some.inj h
      rfl
    · obtain rfl := Option.some.inj h
      rfl
  · obtain rfl := Option.some.inj h
    rfl
set_option maxRecDepth 100000 in
set_option maxHeartbeats 4000000 in
theorem e_X11_clear {σ : St} {t : Nat} {M : MS}  {ρ : Int32 × MS} (R : MR σ t) (h : g_X11_clear M  = some ρ) : f_X11_clear (ij σ t M) t  = some ((fun r => (r.1, ij σ t r.2)) ρ) := by
  unfold g_X11_clear at h
  unfold f_X11_clear
  try simp only [ij_dn R, ij_I4, ij_stI4, bnd]
  obtain rfl := Option.some.inj h
  rfl
set_option maxRecDepth 100000 in
set_option maxHeartbeats 4000000 in
theorem e_X11_next {σ : St} {t : Nat} {M : MS}  {ρ : Int32} (R : MR σ t) (h : g_X11_next M  = some ρ) : f_X11_next (ij σ t M) t  = some ((fun r => r) ρ) := by
  unfold g_X11_next at h
  unfold f_X11_next
  try simp only [ij_dn R, ij_r2 R, ij_d2 R, ij_e2 R, ij_l2 R, ij_A2, ij_stA2, ij_I4, ij_stI4, ij_I5, ij_stI5, bnd]
  refine if_to h (fun c1 h => ?_) (fun c1 h => ?_)
  · obtain rfl := Option.some.inj h
    rfl
  · obtain ⟨j2, g3, h⟩ := bind_ok h
    refine bind_to g3 ?_
    obtain rfl := Option.some.inj h
    rfl
set_option maxRecDepth 100000 in
set_option maxHeartbeats 4000000 in
theorem e_X11_isLetter {σ : St} {t : Nat} {M : MS}  {ρ : Int32} (R : MR σ t) (h : g_X11_isLetter M  = some ρ) : f_X11_isLetter (ij σ t M) t  = some ((fun r => r) ρ) := by
  unfold g_X11_isLetter at h
  unfold f_X11_isLetter
  try simp only [ij_dn R, bnd]
  obtain ⟨q1, g2, h⟩ := bind_ok h
  refine bind_to (e_X11_next R g2) ?_
  obtain ⟨q3, g4, h⟩ := bind_ok h
  refine bind_to (e_X11_in R g4) ?_
  obtain ⟨z5, g6, h⟩ := bind_ok h
  refine bind_to g6 ?_
  obtain rfl := Option.some.inj h
  rfl
set_option maxRecDepth 100000 in
set_option maxHeartbeats 4000000 in
theorem eLGX11_skips_0 {σ : St} {t : Nat}  (R : MR σ t) : ∀ (n : Nat) (μ : MS) y, LGX11_skips_0 n μ = some y → LX11_skips_0 n t (ij σ t μ) = some ((fun w => ij σ t w) y) := by
  intro n
  induction n with
  | zero => intro _ _ h; cases (show (none : Option _) = some _ from h)
  | succ n ihx1 =>
    intro μ yx1 h
    rw [LGX11_skips_0] at h
    rw [LX11_skips_0]
    try simp only [ij_dn R, ij_I5, ij_stI5, bnd]
    obtain ⟨q2, g3, h⟩ := bind_ok h
    refine bind_to (e_X11_next R g3) ?_
    refine if_to h (fun c4 h => ?_) (fun c4 h => ?_)
    · obtain rfl := Option.some.inj h
      rfl
    · exact ihx1 _ _ h
set_option maxRecDepth 100000 in
set_option maxHeartbeats 4000000 in
theorem e_X11_skips {σ : St} {t : Nat} {M : MS}  {ρ : MS} (R : MR σ t) (h : g_X11_skips M  = some ρ) : f_X11_skips (ij σ t M) t  = some ((fun r => ij σ t r) ρ) := by
  unfold g_X11_skips at h
  unfold f_X11_skips
  try simp only [ij_dn R, ij_I5, ij_stI5, bnd]
  obtain ⟨x1, hxx1, h⟩ := bind_ok h
  refine bind_to (eLGX11_skips_0 R FU _ _ hxx1) ?_
  try simp only [ij_dn R, ij_I5, ij_stI5, bnd]
  obtain rfl := Option.some.inj h
  rfl
set_option maxRecDepth 100000 in
set_option maxHeartbeats 4000000 in
theorem e_X11_takes {σ : St} {t : Nat} {M : MS} {p1 : Int32} {ρ : Int32 × MS} (R : MR σ t) (h : g_X11_takes M p1 = some ρ) : f_X11_takes (ij σ t M) t p1 = some ((fun r => (r.1, ij σ t r.2)) ρ) := by
  unfold g_X11_takes at h
  unfold f_X11_takes
  try simp only [ij_dn R, ij_I5, ij_stI5, bnd]
  obtain ⟨q1, g2, h⟩ := bind_ok h
  refine bind_to (e_X11_next R g2) ?_
  obtain ⟨x3, hxx3, h⟩ := bind_ok h
  refine bind_to (a := (fun (w : Int32) => w) x3) ?_ ?_
  · have h := hxx3
    refine if_to h (fun c4 h => ?_) (fun c4 h => ?_)
    · obtain rfl := Option.some.inj h
      rfl
    · obtain rfl := Option.some.inj h
      rfl
  · try simp only [ij_dn R, ij_I5, ij_stI5, bnd]
    refine if_to h (fun c5 h => ?_) (fun c5 h => ?_)
    · obtain ⟨z6, g7, h⟩ := bind_ok h
      refine bind_to g7 ?_
      obtain rfl := Option.some.inj h
      rfl
    · obtain ⟨q8, g9, h⟩ := bind_ok h
      refine bind_to (e_X11_skips R g9) ?_
      try simp only [ij_dn R, ij_I5, ij_stI5, bnd]
      obtain ⟨z10, g11, h⟩ := bind_ok h
      refine bind_to g11 ?_
      obtain rfl := Option.some.inj h
      rfl
set_option maxRecDepth 100000 in
set_option maxHeartbeats 4000000 in
theorem eLGX11_readsWord_36 {σ : St} {t : Nat}  (R : MR σ t) : ∀ (n : Nat) (v1 : Int32) (μ : MS) y, LGX11_readsWord_36 n v1 μ = some y → LX11_readsWord_36 n t v1 (ij σ t μ) = some ((fun w => ij σ t w) y) := by
  intro n
  induction n with
  | zero => intro _ _ _ h; cases (show (none : Option _) = some _ from h)
  | succ n ihx13 =>
    intro v1 μ yx13 h
    rw [LGX11_readsWord_36] at h
    rw [LX11_readsWord_36]
    try simp only [ij_dn R, ij_r3 R, ij_d3 R, ij_e3 R, ij_l3 R, ij_A3, ij_stA3, ij_I5, ij_stI5, ij_I6, ij_stI6, bnd]
    obtain ⟨q14, g15, h⟩ := bind_ok h
    refine bind_to (e_X11_isLetter R g15) ?_
    refine if_to h (fun c16 h => ?_) (fun c16 h => ?_)
    · obtain rfl := Option.some.inj h
      rfl
    · refine if_to h (fun c17 h => ?_) (fun c17 h => ?_)
      · obtain rfl := Option.some.inj h
        rfl
      · obtain ⟨j18, g19, h⟩ := bind_ok h
        refine bind_to g19 ?_
        obtain ⟨q20, g21, h⟩ := bind_ok h
        refine bind_to (e_X11_next R g21) ?_
        obtain ⟨j22, g23, h⟩ := bind_ok h
        refine bind_to g23 ?_
        obtain ⟨j24, g25, h⟩ := bind_ok h
        refine bind_to g25 ?_
        obtain ⟨j26, g27, h⟩ := bind_ok h
        refine bind_to g27 ?_
        exact ihx13 _ _ _ h
set_option maxRecDepth 100000 in
set_option maxHeartbeats 4000000 in
theorem e_X11_readsWord {σ : St} {t : Nat} {M : MS}  {ρ : MS} (R : MR σ t) (h : g_X11_readsWord M  = some ρ) : f_X11_readsWord (ij σ t M) t  = some ((fun r => ij σ t r) ρ) := by
  unfold g_X11_readsWord at h
  unfold f_X11_readsWord
  try simp only [ij_dn R, ij_r3 R, ij_d3 R, ij_e3 R, ij_l3 R, ij_A3, ij_stA3, ij_I5, ij_stI5, ij_I6, ij_stI6, bnd]
  obtain ⟨j1, g2, h⟩ := bind_ok h
  refine bind_to g2 ?_
  obtain ⟨x3, hxx3, h⟩ := bind_ok h
  refine bind_to (a := (fun (w : MS) => ij σ t w) x3) ?_ ?_
  · have h := hxx3
    refine if_to h (fun c4 h => ?_) (fun c4 h => ?_)
    · obtain rfl := Option.some.inj h
      rfl
    · obtain ⟨j5, g6, h⟩ := bind_ok h
      refine bind_to g6 ?_
      obtain ⟨j7, g8, h⟩ := bind_ok h
      refine bind_to g8 ?_
      obtain ⟨j9, g10, h⟩ := bind_ok h
      refine bind_to g10 ?_
      obtain ⟨j11, g12, h⟩ := bind_ok h
      refine bind_to g12 ?_
      obtain rfl := Option.some.inj h
      rfl
  · try simp only [ij_dn R, ij_r3 R, ij_d3 R, ij_e3 R, ij_l3 R, ij_A3, ij_stA3, ij_I5, ij_stI5, ij_I6, ij_stI6, bnd]
    obtain ⟨x13, hxx13, h⟩ := bind_ok h
    refine bind_to (eLGX11_readsWord_36 R FU _ _ _ hxx13) ?_
    try simp only [ij_dn R, ij_r3 R, ij_d3 R, ij_e3 R, ij_l3 R, ij_A3, ij_stA3, ij_I5, ij_stI5, ij_I6, ij_stI6, bnd]
    obtain ⟨j28, g29, h⟩ := bind_ok h
    refine bind_to g29 ?_
    obtain ⟨j30, g31, h⟩ := bind_ok h
    refine bind_to g31 ?_
    obtain ⟨q32, g33, h⟩ := bind_ok h
    refine bind_to (e_X11_isLetter R g33) ?_
    obtain ⟨x34, hxx34, h⟩ := bind_ok h
    refine bind_to (a := (fun (w : Int32) => w) x34) ?_ ?_
    · have h := hxx34
      refine if_to h (fun c35 h => ?_) (fun c35 h => ?_)
      · obtain rfl := Option.some.inj h
        rfl
      · obtain rfl := Option.some.inj h
        rfl
    · try simp only [ij_dn R, ij_r3 R, ij_d3 R, ij_e3 R, ij_l3 R, ij_A3, ij_stA3, ij_I5, ij_stI5, ij_I6, ij_stI6, bnd]
      obtain ⟨q36, g37, h⟩ := bind_ok h
      refine bind_to (e_X11_skips R g37) ?_
      try simp only [ij_dn R, ij_r3 R, ij_d3 R, ij_e3 R, ij_l3 R, ij_A3, ij_stA3, ij_I5, ij_stI5, ij_I6, ij_stI6, bnd]
      obtain rfl := Option.some.inj h
      rfl
set_option maxRecDepth 100000 in
set_option maxHeartbeats 4000000 in
theorem eLGX11_readsLine_87 {σ : St} {t : Nat}  (R : MR σ t) : ∀ (n : Nat) (μ : MS) y, LGX11_readsLine_87 n μ = some y → LX11_readsLine_87 n t (ij σ t μ) = some ((fun w => ij σ t w) y) := by
  intro n
  induction n with
  | zero => intro _ _ h; cases (show (none : Option _) = some _ from h)
  | succ n ihx24 =>
    intro μ yx24 h
    rw [LGX11_readsLine_87] at h
    rw [LX11_readsLine_87]
    try simp only [ij_dn R, ij_r3 R, ij_d3 R, ij_e3 R, ij_l3 R, ij_A3, ij_stA3, ij_I4, ij_stI4, ij_I5, ij_stI5, ij_I6, ij_stI6, bnd]
    obtain ⟨q25, g26, h⟩ := bind_ok h
    refine bind_to (e_X11_isLetter R g26) ?_
    refine if_to h (fun c27 h => ?_) (fun c27 h => ?_)
    · obtain rfl := Option.some.inj h
      rfl
    · refine if_to h (fun c28 h => ?_) (fun c28 h => ?_)
      · obtain rfl := Option.some.inj h
        rfl
      · obtain ⟨q29, g30, h⟩ := bind_ok h
        refine bind_to (e_X11_readsWord R g30) ?_
        try simp only [ij_dn R, ij_r3 R, ij_d3 R, ij_e3 R, ij_l3 R, ij_A3, ij_stA3, ij_I4, ij_stI4, ij_I5, ij_stI5, ij_I6, ij_stI6, bnd]
        exact ihx24 _ _ h
set_option maxRecDepth 100000 in
set_option maxHeartbeats 4000000 in
theorem eLGX11_readsLine_55 {σ : St} {t : Nat}  (R : MR σ t) : ∀ (n : Nat) (μ : MS) y, LGX11_readsLine_55 n μ = some y → LX11_readsLine_55 n t (ij σ t μ) = some ((fun w => ij σ t w) y) := by
  intro n
  induction n with
  | zero => intro _ _ h; cases (show (none : Option _) = some _ from h)
  | succ n ihx13 =>
    intro μ yx13 h
    rw [LGX11_readsLine_55] at h
    rw [LX11_readsLine_55]
    try simp only [ij_dn R, ij_r3 R, ij_d3 R, ij_e3 R, ij_l3 R, ij_A3, ij_stA3, ij_I4, ij_stI4, ij_I5, ij_stI5, ij_I6, ij_stI6, bnd]
    obtain ⟨j14, g15, h⟩ := bind_ok h
    refine bind_to g15 ?_
    refine if_to h (fun c16 h => ?_) (fun c16 h => ?_)
    · obtain rfl := Option.some.inj h
      rfl
    · obtain ⟨q17, g18, h⟩ := bind_ok h
      refine bind_to (e_X11_takes R g18) ?_
      try simp only [ij_dn R, ij_r3 R, ij_d3 R, ij_e3 R, ij_l3 R, ij_A3, ij_stA3, ij_I4, ij_stI4, ij_I5, ij_stI5, ij_I6, ij_stI6, bnd]
      refine if_to h (fun c19 h => ?_) (fun c19 h => ?_)
      · obtain rfl := Option.some.inj h
        rfl
      · obtain ⟨j20, g21, h⟩ := bind_ok h
        refine bind_to g21 ?_
        obtain ⟨j22, g23, h⟩ := bind_ok h
        refine bind_to g23 ?_
        exact ihx13 _ _ h
set_option maxRecDepth 100000 in
set_option maxHeartbeats 4000000 in
theorem eLGX11_readsLine_16 {σ : St} {t : Nat}  (R : MR σ t) : ∀ (n : Nat) (v1 : Int32) (μ : MS) y, LGX11_readsLine_16 n v1 μ = some y → LX11_readsLine_16 n t v1 (ij σ t μ) = some ((fun w => ij σ t w) y) := by
  intro n
  induction n with
  | zero => intro _ _ _ h; cases (show (none : Option _) = some _ from h)
  | succ n ihx3 =>
    intro v1 μ yx3 h
    rw [LGX11_readsLine_16] at h
    rw [LX11_readsLine_16]
    try simp only [ij_dn R, ij_r3 R, ij_d3 R, ij_e3 R, ij_l3 R, ij_A3, ij_stA3, ij_I4, ij_stI4, ij_I5, ij_stI5, ij_I6, ij_stI6, bnd]
    refine if_to h (fun c4 h => ?_) (fun c4 h => ?_)
    · obtain rfl := Option.some.inj h
      rfl
    · obtain ⟨j5, g6, h⟩ := bind_ok h
      refine bind_to g6 ?_
      exact ihx3 _ _ _ h
set_option maxRecDepth 100000 in
set_option maxHeartbeats 4000000 in
theorem e_X11_readsLine {σ : St} {t : Nat} {M : MS}  {ρ : MS} (R : MR σ t) (h : g_X11_readsLine M  = some ρ) : f_X11_readsLine (ij σ t M) t  = some ((fun r => ij σ t r) ρ) := by
  unfold g_X11_readsLine at h
  unfold f_X11_readsLine
  try simp only [ij_dn R, ij_r3 R, ij_d3 R, ij_e3 R, ij_l3 R, ij_A3, ij_stA3, ij_I4, ij_stI4, ij_I5, ij_stI5, ij_I6, ij_stI6, bnd]
  obtain ⟨q1, g2, h⟩ := bind_ok h
  refine bind_to (e_X11_skips R g2) ?_
  try simp only [ij_dn R, ij_r3 R, ij_d3 R, ij_e3 R, ij_l3 R, ij_A3, ij_stA3, ij_I4, ij_stI4, ij_I5, ij_stI5, ij_I6, ij_stI6, bnd]
  obtain ⟨x3, hxx3, h⟩ := bind_ok h
  refine bind_to (eLGX11_readsLine_16 R FU _ _ _ hxx3) ?_
  try simp only [ij_dn R, ij_r3 R, ij_d3 R, ij_e3 R, ij_l3 R, ij_A3, ij_stA3, ij_I4, ij_stI4, ij_I5, ij_stI5, ij_I6, ij_stI6, bnd]
  obtain ⟨q7, g8, h⟩ := bind_ok h
  refine bind_to (e_X11_takes R g8) ?_
  try simp only [ij_dn R, ij_r3 R, ij_d3 R, ij_e3 R, ij_l3 R, ij_A3, ij_stA3, ij_I4, ij_stI4, ij_I5, ij_stI5, ij_I6, ij_stI6, bnd]
  obtain ⟨x9, hxx9, h⟩ := bind_ok h
  refine bind_to (a := (fun (w : Int32) => w) x9) ?_ ?_
  · have h := hxx9
    refine if_to h (fun c10 h => ?_) (fun c10 h => ?_)
    · obtain rfl := Option.some.inj h
      rfl
    · obtain rfl := Option.some.inj h
      rfl
  · try simp only [ij_dn R, ij_r3 R, ij_d3 R, ij_e3 R, ij_l3 R, ij_A3, ij_stA3, ij_I4, ij_stI4, ij_I5, ij_stI5, ij_I6, ij_stI6, bnd]
    obtain ⟨j11, g12, h⟩ := bind_ok h
    refine bind_to g12 ?_
    obtain ⟨x13, hxx13, h⟩ := bind_ok h
    refine bind_to (eLGX11_readsLine_55 R FU _ _ hxx13) ?_
    try simp only [ij_dn R, ij_r3 R, ij_d3 R, ij_e3 R, ij_l3 R, ij_A3, ij_stA3, ij_I4, ij_stI4, ij_I5, ij_stI5, ij_I6, ij_stI6, bnd]
    obtain ⟨x24, hxx24, h⟩ := bind_ok h
    refine bind_to (eLGX11_readsLine_87 R FU _ _ hxx24) ?_
    try simp only [ij_dn R, ij_r3 R, ij_d3 R, ij_e3 R, ij_l3 R, ij_A3, ij_stA3, ij_I4, ij_stI4, ij_I5, ij_stI5, ij_I6, ij_stI6, bnd]
    obtain ⟨x31, hxx31, h⟩ := bind_ok h
    refine bind_to (a := (fun (w : MS) => ij σ t w) x31) ?_ ?_
    · have h := hxx31
      refine if_to h (fun c32 h => ?_) (fun c32 h => ?_)
      · obtain rfl := Option.some.inj h
        rfl
      · obtain ⟨j33, g34, h⟩ := bind_ok h
        refine bind_to g34 ?_
        refine if_to h (fun c35 h => ?_) (fun c35 h => ?_)
        · obtain rfl := Option.some.inj h
          rfl
        · obtain ⟨q36, g37, h⟩ := bind_ok h
          refine bind_to (e_X11_takes R g37) ?_
          try simp only [ij_dn R, ij_r3 R, ij_d3 R, ij_e3 R, ij_l3 R, ij_A3, ij_stA3, ij_I4, ij_stI4, ij_I5, ij_stI5, ij_I6, ij_stI6, bnd]
          obtain ⟨x38, hxx38, h⟩ := bind_ok h
          refine bind_to (a := (fun (w : Int32) => w) x38) ?_ ?_
          · have h := hxx38
            refine if_to h (fun c39 h => ?_) (fun c39 h => ?_)
            · obtain rfl := Option.some.inj h
              rfl
            · obtain rfl := Option.some.inj h
              rfl
          · try simp only [ij_dn R, ij_r3 R, ij_d3 R, ij_e3 R, ij_l3 R, ij_A3, ij_stA3, ij_I4, ij_stI4, ij_I5, ij_stI5, ij_I6, ij_stI6, bnd]
            obtain ⟨j40, g41, h⟩ := bind_ok h
            refine bind_to g41 ?_
            obtain rfl := Option.some.inj h
            rfl
    · try simp only [ij_dn R, ij_r3 R, ij_d3 R, ij_e3 R, ij_l3 R, ij_A3, ij_stA3, ij_I4, ij_stI4, ij_I5, ij_stI5, ij_I6, ij_stI6, bnd]
      refine if_to h (fun c42 h => ?_) (fun c42 h => ?_)
      · obtain rfl := Option.some.inj h
        rfl
      · obtain ⟨j43, g44, h⟩ := bind_ok h
        refine bind_to g44 ?_
        obtain ⟨x45, hxx45, Hx45⟩ := sb_ok h
        refine sb_to (x := Sum.map (fun r => ij σ t r) (fun w => ()) x45) ?_ ?_
        · have h := hxx45
          refine if_to h (fun c46 h => ?_) (fun c46 h => ?_)
          · obtain rfl := Option.some.inj h
            rfl
          · refine if_to h (fun c47 h => ?_) (fun c47 h => ?_)
            · obtain rfl := Option.some.inj h
              rfl
            · obtain rfl := Option.some.inj h
              rfl
        · rcases Hx45 with rfl | ⟨wx45, rfl, h⟩
          · exact Or.inl rfl
          · refine Or.inr ⟨_, rfl, ?_⟩
            try simp only [ij_dn R, ij_r3 R, ij_d3 R, ij_e3 R, ij_l3 R, ij_A3, ij_stA3, ij_I4, ij_stI4, ij_I5, ij_stI5, ij_I6, ij_stI6, bnd]
            obtain rfl := Option.some.inj h
            rfl
set_option maxRecDepth 100000 in
set_option maxHeartbeats 4000000 in
theorem eLGX11_isName_21 {σ : St} {t : Nat} {μ : MS} {l1 : Int32} {l2 : Int64} {l4 : Int32} (R : MR σ t) : ∀ (n : Nat) (v5 : Int32) (v6 : Int32) y, LGX11_isName_21 n μ l1 l2 l4 v5 v6 = some y → LX11_isName_21 n (ij σ t μ) t l1 l2 l4 v5 v6 = some ((fun w => w) y) := by
  intro n
  induction n with
  | zero => intro _ _ _ h; cases (show (none : Option _) = some _ from h)
  | succ n ihx3 =>
    intro v5 v6 yx3 h
    rw [LGX11_isName_21] at h
    rw [LX11_isName_21]
    try simp only [ij_dn R, ij_r2 R, ij_d2 R, ij_e2 R, ij_l2 R, ij_A2, ij_stA2, ij_I5, ij_stI5, bnd]
    refine if_to h (fun c4 h => ?_) (fun c4 h => ?_)
    · obtain rfl := Option.some.inj h
      rfl
    · refine if_to h (fun c5 h => ?_) (fun c5 h => ?_)
      · obtain rfl := Option.some.inj h
        rfl
      · obtain ⟨j6, g7, h⟩ := bind_ok h
        refine bind_to g7 ?_
        obtain ⟨x8, hxx8, h⟩ := bind_ok h
        refine bind_to (a := (fun (w : Int32) => w) x8) ?_ ?_
        · have h := hxx8
          refine if_to h (fun c9 h => ?_) (fun c9 h => ?_)
          · obtain rfl := Option.some.inj h
            rfl
          · obtain rfl := Option.some.inj h
            rfl
        · try simp only [ij_dn R, ij_r2 R, ij_d2 R, ij_e2 R, ij_l2 R, ij_A2, ij_stA2, ij_I5, ij_stI5, bnd]
          exact ihx3 _ _ _ h
set_option maxRecDepth 100000 in
set_option maxHeartbeats 4000000 in
theorem e_X11_isName {σ : St} {t : Nat} {M : MS} {p1 : Int32} {p2 : Int64} {p3 : Int32} {ρ : Int32} (R : MR σ t) (h : g_X11_isName M p1 p2 p3 = some ρ) : f_X11_isName (ij σ t M) t p1 p2 p3 = some ((fun r => r) ρ) := by
  unfold g_X11_isName at h
  unfold f_X11_isName
  try simp only [ij_dn R, ij_r2 R, ij_d2 R, ij_e2 R, ij_l2 R, ij_A2, ij_stA2, ij_I5, ij_stI5, bnd]
  obtain ⟨x1, hxx1, h⟩ := bind_ok h
  refine bind_to (a := (fun (w : Int32) => w) x1) ?_ ?_
  · have h := hxx1
    refine if_to h (fun c2 h => ?_) (fun c2 h => ?_)
    · obtain rfl := Option.some.inj h
      rfl
    · obtain rfl := Option.some.inj h
      rfl
  · try simp only [ij_dn R, ij_r2 R, ij_d2 R, ij_e2 R, ij_l2 R, ij_A2, ij_stA2, ij_I5, ij_stI5, bnd]
    obtain ⟨x3, hxx3, h⟩ := bind_ok h
    refine bind_to (eLGX11_isName_21 R FU _ _ _ hxx3) ?_
    try simp only [ij_dn R, ij_r2 R, ij_d2 R, ij_e2 R, ij_l2 R, ij_A2, ij_stA2, ij_I5, ij_stI5, bnd]
    obtain ⟨z10, g11, h⟩ := bind_ok h
    refine bind_to g11 ?_
    obtain rfl := Option.some.inj h
    rfl
set_option maxRecDepth 100000 in
set_option maxHeartbeats 4000000 in
theorem eLGX11_readsShape_19 {σ : St} {t : Nat} {l1 : Int32} (R : MR σ t) : ∀ (n : Nat) (μ : MS) y, LGX11_readsShape_19 n l1 μ = some y → LX11_readsShape_19 n t l1 (ij σ t μ) = some ((fun w => ij σ t w) y) := by
  intro n
  induction n with
  | zero => intro _ _ h; cases (show (none : Option _) = some _ from h)
  | succ n ihx3 =>
    intro μ yx3 h
    rw [LGX11_readsShape_19] at h
    rw [LX11_readsShape_19]
    try simp only [ij_dn R, ij_I4, ij_stI4, ij_I5, ij_stI5, ij_I6, ij_stI6, ij_I8, ij_stI8, bnd]
    obtain ⟨q4, g5, h⟩ := bind_ok h
    refine bind_to (e_X11_isLetter R g5) ?_
    refine if_to h (fun c6 h => ?_) (fun c6 h => ?_)
    · obtain rfl := Option.some.inj h
      rfl
    · exact ihx3 _ _ h
set_option maxRecDepth 100000 in
set_option maxHeartbeats 4000000 in
theorem e_X11_readsShape {σ : St} {t : Nat} {M : MS}  {ρ : MS} (R : MR σ t) (h : g_X11_readsShape M  = some ρ) : f_X11_readsShape (ij σ t M) t  = some ((fun r => ij σ t r) ρ) := by
  unfold g_X11_readsShape at h
  unfold f_X11_readsShape
  try simp only [ij_dn R, ij_I4, ij_stI4, ij_I5, ij_stI5, ij_I6, ij_stI6, ij_I8, ij_stI8, bnd]
  obtain ⟨q1, g2, h⟩ := bind_ok h
  refine bind_to (e_X11_skips R g2) ?_
  try simp only [ij_dn R, ij_I4, ij_stI4, ij_I5, ij_stI5, ij_I6, ij_stI6, ij_I8, ij_stI8, bnd]
  obtain ⟨x3, hxx3, h⟩ := bind_ok h
  refine bind_to (eLGX11_readsShape_19 R FU _ _ hxx3) ?_
  try simp only [ij_dn R, ij_I4, ij_stI4, ij_I5, ij_stI5, ij_I6, ij_stI6, ij_I8, ij_stI8, bnd]
  obtain ⟨q7, g8, h⟩ := bind_ok h
  refine bind_to (e_X11_isName R g8) ?_
  obtain ⟨x9, hxx9, h⟩ := bind_ok h
  refine bind_to (a := (fun (w : Int32) => w) x9) ?_ ?_
  · have h := hxx9
    refine if_to h (fun c10 h => ?_) (fun c10 h => ?_)
    · obtain ⟨q11, g12, h⟩ := bind_ok h
      refine bind_to (e_X11_isName R g12) ?_
      refine if_to h (fun c13 h => ?_) (fun c13 h => ?_)
      · obtain ⟨q14, g15, h⟩ := bind_ok h
        refine bind_to (e_X11_isName R g15) ?_
        refine if_to h (fun c16 h => ?_) (fun c16 h => ?_)
        · obtain ⟨q17, g18, h⟩ := bind_ok h
          refine bind_to (e_X11_isName R g18) ?_
          refine if_to h (fun c19 h => ?_) (fun c19 h => ?_)
          · obtain rfl := Option.some.inj h
            rfl
          · obtain rfl := Option.some.inj h
            rfl
        · obtain rfl := Option.some.inj h
          rfl
      · obtain rfl := Option.some.inj h
        rfl
    · obtain rfl := Option.some.inj h
      rfl
  · try simp only [ij_dn R, ij_I4, ij_stI4, ij_I5, ij_stI5, ij_I6, ij_stI6, ij_I8, ij_stI8, bnd]
    refine if_to h (fun c20 h => ?_) (fun c20 h => ?_)
    · obtain ⟨q21, g22, h⟩ := bind_ok h
      refine bind_to (e_X11_skips R g22) ?_
      try simp only [ij_dn R, ij_I4, ij_stI4, ij_I5, ij_stI5, ij_I6, ij_stI6, ij_I8, ij_stI8, bnd]
      obtain ⟨x23, hxx23, h⟩ := bind_ok h
      refine bind_to (a := (fun (w : Int32) => w) x23) ?_ ?_
      · have h := hxx23
        refine if_to h (fun c24 h => ?_) (fun c24 h => ?_)
        · obtain rfl := Option.some.inj h
          rfl
        · obtain rfl := Option.some.inj h
          rfl
      · try simp only [ij_dn R, ij_I4, ij_stI4, ij_I5, ij_stI5, ij_I6, ij_stI6, ij_I8, ij_stI8, bnd]
        obtain rfl := Option.some.inj h
        rfl
    · obtain rfl := Option.some.inj h
      rfl
set_option maxRecDepth 100000 in
set_option maxHeartbeats 4000000 in
theorem e_X11_fault {σ : St} {t : Nat} {M : MS} {p1 : Int32} {ρ : Int32 × MS} (R : MR σ t) (h : g_X11_fault M p1 = some ρ) : f_X11_fault (ij σ t M) t p1 = some ((fun r => (r.1, ij σ t r.2)) ρ) := by
  unfold g_X11_fault at h
  unfold f_X11_fault
  try simp only [ij_dn R, ij_I6, ij_stI6, bnd]
  obtain ⟨x1, hxx1, h⟩ := bind_ok h
  refine bind_to (a := (fun (w : MS) => ij σ t w) x1) ?_ ?_
  · have h := hxx1
    refine if_to h (fun c2 h => ?_) (fun c2 h => ?_)
    · obtain ⟨q3, g4, h⟩ := bind_ok h
      refine bind_to (e_X11_readsLine R g4) ?_
      try simp only [ij_dn R, ij_I6, ij_stI6, bnd]
      obtain rfl := Option.some.inj h
      rfl
    · obtain ⟨q5, g6, h⟩ := bind_ok h
      refine bind_to (e_X11_readsShape R g6) ?_
      try simp only [ij_dn R, ij_I6, ij_stI6, bnd]
      obtain rfl := Option.some.inj h
      rfl
  · try simp only [ij_dn R, ij_I6, ij_stI6, bnd]
    obtain rfl := Option.some.inj h
    rfl
set_option maxRecDepth 100000 in
set_option maxHeartbeats 4000000 in
theorem e_X11_isLine {σ : St} {t : Nat} {M : MS} {p1 : Int32} {ρ : Int32} (R : MR σ t) (h : g_X11_isLine M p1 = some ρ) : f_X11_isLine (ij σ t M) t p1 = some ((fun r => r) ρ) := by
  unfold g_X11_isLine at h
  unfold f_X11_isLine
  try simp only [ij_dn R, ij_r0 R, ij_d0 R, ij_e0 R, ij_l0 R, ij_A0, ij_stA0, bnd]
  obtain ⟨j1, g2, h⟩ := bind_ok h
  refine bind_to g2 ?_
  obtain ⟨q3, g4, h⟩ := bind_ok h
  refine bind_to (e_X11_in R g4) ?_
  obtain ⟨z5, g6, h⟩ := bind_ok h
  refine bind_to g6 ?_
  obtain rfl := Option.some.inj h
  rfl
set_option maxRecDepth 100000 in
set_option maxHeartbeats 4000000 in
theorem e_X11_of {σ : St} {t : Nat} {M : MS} {p1 : Int32} {p2 : Int32} {ρ : Int32} (R : MR σ t) (h : g_X11_of M p1 p2 = some ρ) : f_X11_of (ij σ t M) t p1 p2 = some ((fun r => r) ρ) := by
  unfold g_X11_of at h
  unfold f_X11_of
  try simp only [ij_dn R, ij_r0 R, ij_d0 R, ij_e0 R, ij_l0 R, ij_A0, ij_stA0, bnd]
  obtain ⟨j1, g2, h⟩ := bind_ok h
  refine bind_to g2 ?_
  obtain rfl := Option.some.inj h
  rfl
set_option maxRecDepth 100000 in
set_option maxHeartbeats 4000000 in
theorem eLGX11_copies_2 {σ : St} {t : Nat} {l1 : Int32} {l2 : Int32} (R : MR σ t) : ∀ (n : Nat) (v3 : Int32) (μ : MS) y, LGX11_copies_2 n l1 l2 v3 μ = some y → LX11_copies_2 n t l1 l2 v3 (ij σ t μ) = some ((fun w => ij σ t w) y) := by
  intro n
  induction n with
  | zero => intro _ _ _ h; cases (show (none : Option _) = some _ from h)
  | succ n ihx1 =>
    intro v3 μ yx1 h
    rw [LGX11_copies_2] at h
    rw [LX11_copies_2]
    try simp only [ij_dn R, ij_r0 R, ij_d0 R, ij_e0 R, ij_l0 R, ij_A0, ij_stA0, bnd]
    refine if_to h (fun c2 h => ?_) (fun c2 h => ?_)
    · obtain rfl := Option.some.inj h
      rfl
    · obtain ⟨j3, g4, h⟩ := bind_ok h
      refine bind_to g4 ?_
      obtain ⟨j5, g6, h⟩ := bind_ok h
      refine bind_to g6 ?_
      exact ihx1 _ _ _ h
set_option maxRecDepth 100000 in
set_option maxHeartbeats 4000000 in
theorem e_X11_copies {σ : St} {t : Nat} {M : MS} {p1 : Int32} {p2 : Int32} {ρ : MS} (R : MR σ t) (h : g_X11_copies M p1 p2 = some ρ) : f_X11_copies (ij σ t M) t p1 p2 = some ((fun r => ij σ t r) ρ) := by
  unfold g_X11_copies at h
  unfold f_X11_copies
  try simp only [ij_dn R, ij_r0 R, ij_d0 R, ij_e0 R, ij_l0 R, ij_A0, ij_stA0, bnd]
  obtain ⟨x1, hxx1, h⟩ := bind_ok h
  refine bind_to (eLGX11_copies_2 R FU _ _ _ hxx1) ?_
  try simp only [ij_dn R, ij_r0 R, ij_d0 R, ij_e0 R, ij_l0 R, ij_A0, ij_stA0, bnd]
  obtain rfl := Option.some.inj h
  rfl
set_option maxRecDepth 100000 in
set_option maxHeartbeats 4000000 in
theorem eLGX11_lays_2 {σ : St} {t : Nat} {l1 : Int32} (R : MR σ t) : ∀ (n : Nat) (v2 : Int32) (μ : MS) y, LGX11_lays_2 n l1 v2 μ = some y → LX11_lays_2 n t l1 v2 (ij σ t μ) = some ((fun w => ij σ t w) y) := by
  intro n
  induction n with
  | zero => intro _ _ _ h; cases (show (none : Option _) = some _ from h)
  | succ n ihx1 =>
    intro v2 μ yx1 h
    rw [LGX11_lays_2] at h
    rw [LX11_lays_2]
    try simp only [ij_dn R, ij_r0 R, ij_d0 R, ij_e0 R, ij_l0 R, ij_A0, ij_stA0, ij_r3 R, ij_d3 R, ij_e3 R, ij_l3 R, ij_A3, ij_stA3, bnd]
    refine if_to h (fun c2 h => ?_) (fun c2 h => ?_)
    · obtain rfl := Option.some.inj h
      rfl
    · obtain ⟨j3, g4, h⟩ := bind_ok h
      refine bind_to g4 ?_
      obtain ⟨j5, g6, h⟩ := bind_ok h
      refine bind_to g6 ?_
      exact ihx1 _ _ _ h
set_option maxRecDepth 100000 in
set_option maxHeartbeats 4000000 in
theorem e_X11_lays {σ : St} {t : Nat} {M : MS} {p1 : Int32} {ρ : MS} (R : MR σ t) (h : g_X11_lays M p1 = some ρ) : f_X11_lays (ij σ t M) t p1 = some ((fun r => ij σ t r) ρ) := by
  unfold g_X11_lays at h
  unfold f_X11_lays
  try simp only [ij_dn R, ij_r0 R, ij_d0 R, ij_e0 R, ij_l0 R, ij_A0, ij_stA0, ij_r3 R, ij_d3 R, ij_e3 R, ij_l3 R, ij_A3, ij_stA3, bnd]
  obtain ⟨x1, hxx1, h⟩ := bind_ok h
  refine bind_to (eLGX11_lays_2 R FU _ _ _ hxx1) ?_
  try simp only [ij_dn R, ij_r0 R, ij_d0 R, ij_e0 R, ij_l0 R, ij_A0, ij_stA0, ij_r3 R, ij_d3 R, ij_e3 R, ij_l3 R, ij_A3, ij_stA3, bnd]
  obtain rfl := Option.some.inj h
  rfl
set_option maxRecDepth 100000 in
set_option maxHeartbeats 4000000 in
theorem eLGX11_insert_69 {σ : St} {t : Nat} {l1 : Int32} (R : MR σ t) : ∀ (n : Nat) (v2 : Int32) (μ : MS) y, LGX11_insert_69 n l1 v2 μ = some y → LX11_insert_69 n t l1 v2 (ij σ t μ) = some ((fun w => ij σ t w) y) := by
  intro n
  induction n with
  | zero => intro _ _ _ h; cases (show (none : Option _) = some _ from h)
  | succ n ihx16 =>
    intro v2 μ yx16 h
    rw [LGX11_insert_69] at h
    rw [LX11_insert_69]
    try simp only [ij_dn R, ij_r0 R, ij_d0 R, ij_e0 R, ij_l0 R, ij_A0, ij_stA0, ij_I6, ij_stI6, bnd]
    refine if_to h (fun c17 h => ?_) (fun c17 h => ?_)
    · obtain rfl := Option.some.inj h
      rfl
    · obtain ⟨q18, g19, h⟩ := bind_ok h
      refine bind_to (e_X11_copies R g19) ?_
      try simp only [ij_dn R, ij_r0 R, ij_d0 R, ij_e0 R, ij_l0 R, ij_A0, ij_stA0, ij_I6, ij_stI6, bnd]
      exact ihx16 _ _ _ h
set_option maxRecDepth 100000 in
set_option maxHeartbeats 4000000 in
theorem e_X11_insert {σ : St} {t : Nat} {M : MS} {p1 : Int32} {ρ : Int32 × MS} (R : MR σ t) (h : g_X11_insert M p1 = some ρ) : f_X11_insert (ij σ t M) t p1 = some ((fun r => (r.1, ij σ t r.2)) ρ) := by
  unfold g_X11_insert at h
  unfold f_X11_insert
  try simp only [ij_dn R, ij_r0 R, ij_d0 R, ij_e0 R, ij_l0 R, ij_A0, ij_stA0, ij_I6, ij_stI6, bnd]
  obtain ⟨j1, g2, h⟩ := bind_ok h
  refine bind_to g2 ?_
  obtain ⟨q3, g4, h⟩ := bind_ok h
  refine bind_to (e_X11_in R g4) ?_
  refine if_to h (fun c5 h => ?_) (fun c5 h => ?_)
  · obtain ⟨q6, g7, h⟩ := bind_ok h
    refine bind_to (e_X11_readsLine R g7) ?_
    try simp only [ij_dn R, ij_r0 R, ij_d0 R, ij_e0 R, ij_l0 R, ij_A0, ij_stA0, ij_I6, ij_stI6, bnd]
    refine if_to h (fun c8 h => ?_) (fun c8 h => ?_)
    · obtain ⟨j9, g10, h⟩ := bind_ok h
      refine bind_to g10 ?_
      refine if_to h (fun c11 h => ?_) (fun c11 h => ?_)
      · obtain ⟨q12, g13, h⟩ := bind_ok h
        refine bind_to (e_X11_keeps R g13) ?_
        try simp only [ij_dn R, ij_r0 R, ij_d0 R, ij_e0 R, ij_l0 R, ij_A0, ij_stA0, ij_I6, ij_stI6, bnd]
        obtain ⟨j14, g15, h⟩ := bind_ok h
        refine bind_to g15 ?_
        obtain ⟨x16, hxx16, h⟩ := bind_ok h
        refine bind_to (eLGX11_insert_69 R FU _ _ _ hxx16) ?_
        try simp only [ij_dn R, ij_r0 R, ij_d0 R, ij_e0 R, ij_l0 R, ij_A0, ij_stA0, ij_I6, ij_stI6, bnd]
        obtain ⟨q20, g21, h⟩ := bind_ok h
        refine bind_to (e_X11_lays R g21) ?_
        try simp only [ij_dn R, ij_r0 R, ij_d0 R, ij_e0 R, ij_l0 R, ij_A0, ij_stA0, ij_I6, ij_stI6, bnd]
        obtain ⟨j22, g23, h⟩ := bind_ok h
        refine bind_to g23 ?_
        obtain ⟨j24, g25, h⟩ := bind_ok h
        refine bind_to g25 ?_
        obtain ⟨j26, g27, h⟩ := bind_ok h
        refine bind_to g27 ?_
        obtain rfl := Option.some.inj h
        rfl
      · obtain rfl := Option.some.inj h
        rfl
    · obtain rfl := Option.some.inj h
      rfl
  · obtain rfl := Option.some.inj h
    rfl
set_option maxRecDepth 100000 in
set_option maxHeartbeats 4000000 in
theorem e_X11_replace {σ : St} {t : Nat} {M : MS} {p1 : Int32} {ρ : Int32 × MS} (R : MR σ t) (h : g_X11_replace M p1 = some ρ) : f_X11_replace (ij σ t M) t p1 = some ((fun r => (r.1, ij σ t r.2)) ρ) := by
  unfold g_X11_replace at h
  unfold f_X11_replace
  try simp only [ij_dn R, ij_I6, ij_stI6, bnd]
  obtain ⟨q1, g2, h⟩ := bind_ok h
  refine bind_to (e_X11_isLine R g2) ?_
  refine if_to h (fun c3 h => ?_) (fun c3 h => ?_)
  · obtain ⟨q4, g5, h⟩ := bind_ok h
    refine bind_to (e_X11_readsLine R g5) ?_
    try simp only [ij_dn R, ij_I6, ij_stI6, bnd]
    refine if_to h (fun c6 h => ?_) (fun c6 h => ?_)
    · obtain ⟨q7, g8, h⟩ := bind_ok h
      refine bind_to (e_X11_keeps R g8) ?_
      try simp only [ij_dn R, ij_I6, ij_stI6, bnd]
      obtain ⟨q9, g10, h⟩ := bind_ok h
      refine bind_to (e_X11_of R g10) ?_
      obtain ⟨q11, g12, h⟩ := bind_ok h
      refine bind_to (e_X11_lays R g12) ?_
      try simp only [ij_dn R, ij_I6, ij_stI6, bnd]
      obtain rfl := Option.some.inj h
      rfl
    · obtain rfl := Option.some.inj h
      rfl
  · obtain rfl := Option.some.inj h
    rfl
set_option maxRecDepth 100000 in
set_option maxHeartbeats 4000000 in
theorem eLGX11_drops_14 {σ : St} {t : Nat}  (R : MR σ t) : ∀ (n : Nat) (v2 : Int32) (μ : MS) y, LGX11_drops_14 n v2 μ = some y → LX11_drops_14 n t v2 (ij σ t μ) = some ((fun w => ij σ t w) y) := by
  intro n
  induction n with
  | zero => intro _ _ _ h; cases (show (none : Option _) = some _ from h)
  | succ n ihx5 =>
    intro v2 μ yx5 h
    rw [LGX11_drops_14] at h
    rw [LX11_drops_14]
    try simp only [ij_dn R, ij_r0 R, ij_d0 R, ij_e0 R, ij_l0 R, ij_A0, ij_stA0, bnd]
    obtain ⟨j6, g7, h⟩ := bind_ok h
    refine bind_to g7 ?_
    refine if_to h (fun c8 h => ?_) (fun c8 h => ?_)
    · obtain rfl := Option.some.inj h
      rfl
    · obtain ⟨q9, g10, h⟩ := bind_ok h
      refine bind_to (e_X11_copies R g10) ?_
      try simp only [ij_dn R, ij_r0 R, ij_d0 R, ij_e0 R, ij_l0 R, ij_A0, ij_stA0, bnd]
      exact ihx5 _ _ _ h
set_option maxRecDepth 100000 in
set_option maxHeartbeats 4000000 in
theorem e_X11_drops {σ : St} {t : Nat} {M : MS} {p1 : Int32} {ρ : MS} (R : MR σ t) (h : g_X11_drops M p1 = some ρ) : f_X11_drops (ij σ t M) t p1 = some ((fun r => ij σ t r) ρ) := by
  unfold g_X11_drops at h
  unfold f_X11_drops
  try simp only [ij_dn R, ij_r0 R, ij_d0 R, ij_e0 R, ij_l0 R, ij_A0, ij_stA0, bnd]
  obtain ⟨j1, g2, h⟩ := bind_ok h
  refine bind_to g2 ?_
  obtain ⟨j3, g4, h⟩ := bind_ok h
  refine bind_to g4 ?_
  obtain ⟨x5, hxx5, h⟩ := bind_ok h
  refine bind_to (eLGX11_drops_14 R FU _ _ _ hxx5) ?_
  try simp only [ij_dn R, ij_r0 R, ij_d0 R, ij_e0 R, ij_l0 R, ij_A0, ij_stA0, bnd]
  obtain rfl := Option.some.inj h
  rfl
set_option maxRecDepth 100000 in
set_option maxHeartbeats 4000000 in
theorem e_X11_remove {σ : St} {t : Nat} {M : MS} {p1 : Int32} {ρ : Int32 × MS} (R : MR σ t) (h : g_X11_remove M p1 = some ρ) : f_X11_remove (ij σ t M) t p1 = some ((fun r => (r.1, ij σ t r.2)) ρ) := by
  unfold g_X11_remove at h
  unfold f_X11_remove
  try simp only [ij_dn R, ij_r0 R, ij_d0 R, ij_e0 R, ij_l0 R, ij_A0, ij_stA0, bnd]
  obtain ⟨q1, g2, h⟩ := bind_ok h
  refine bind_to (e_X11_isLine R g2) ?_
  refine if_to h (fun c3 h => ?_) (fun c3 h => ?_)
  · obtain ⟨q4, g5, h⟩ := bind_ok h
    refine bind_to (e_X11_keeps R g5) ?_
    try simp only [ij_dn R, ij_r0 R, ij_d0 R, ij_e0 R, ij_l0 R, ij_A0, ij_stA0, bnd]
    obtain ⟨q6, g7, h⟩ := bind_ok h
    refine bind_to (e_X11_drops R g7) ?_
    try simp only [ij_dn R, ij_r0 R, ij_d0 R, ij_e0 R, ij_l0 R, ij_A0, ij_stA0, bnd]
    obtain ⟨j8, g9, h⟩ := bind_ok h
    refine bind_to g9 ?_
    obtain rfl := Option.some.inj h
    rfl
  · obtain rfl := Option.some.inj h
    rfl
set_option maxRecDepth 100000 in
set_option maxHeartbeats 4000000 in
theorem e_X11_beginsStanza {σ : St} {t : Nat} {M : MS} {p1 : Int32} {ρ : Int32} (R : MR σ t) (h : g_X11_beginsStanza M p1 = some ρ) : f_X11_beginsStanza (ij σ t M) t p1 = some ((fun r => r) ρ) := by
  unfold g_X11_beginsStanza at h
  unfold f_X11_beginsStanza
  try simp only [ij_dn R, bnd]
  refine if_to h (fun c1 h => ?_) (fun c1 h => ?_)
  · obtain rfl := Option.some.inj h
    rfl
  · obtain ⟨q2, g3, h⟩ := bind_ok h
    refine bind_to (e_X11_of R g3) ?_
    refine if_to h (fun c4 h => ?_) (fun c4 h => ?_)
    · obtain rfl := Option.some.inj h
      rfl
    · obtain rfl := Option.some.inj h
      rfl
set_option maxRecDepth 100000 in
set_option maxHeartbeats 4000000 in
theorem eLGX11_stanzaOf_4 {σ : St} {t : Nat} {μ : MS} {l1 : Int32} (R : MR σ t) : ∀ (n : Nat) (v2 : Int32) (v3 : Int32) y, LGX11_stanzaOf_4 n μ l1 v2 v3 = some y → LX11_stanzaOf_4 n (ij σ t μ) t l1 v2 v3 = some ((fun w => w) y) := by
  intro n
  induction n with
  | zero => intro _ _ _ h; cases (show (none : Option _) = some _ from h)
  | succ n ihx1 =>
    intro v2 v3 yx1 h
    rw [LGX11_stanzaOf_4] at h
    rw [LX11_stanzaOf_4]
    try simp only [ij_dn R, bnd]
    refine if_to h (fun c2 h => ?_) (fun c2 h => ?_)
    · obtain rfl := Option.some.inj h
      rfl
    · obtain ⟨q3, g4, h⟩ := bind_ok h
      refine bind_to (e_X11_beginsStanza R g4) ?_
      obtain ⟨x5, hxx5, h⟩ := bind_ok h
      refine bind_to (a := (fun (w : Int32) => w) x5) ?_ ?_
      · have h := hxx5
        refine if_to h (fun c6 h => ?_) (fun c6 h => ?_)
        · obtain rfl := Option.some.inj h
          rfl
        · obtain rfl := Option.some.inj h
          rfl
      · try simp only [ij_dn R, bnd]
        exact ihx1 _ _ _ h
set_option maxRecDepth 100000 in
set_option maxHeartbeats 4000000 in
theorem e_X11_stanzaOf {σ : St} {t : Nat} {M : MS} {p1 : Int32} {ρ : Int32} (R : MR σ t) (h : g_X11_stanzaOf M p1 = some ρ) : f_X11_stanzaOf (ij σ t M) t p1 = some ((fun r => r) ρ) := by
  unfold g_X11_stanzaOf at h
  unfold f_X11_stanzaOf
  try simp only [ij_dn R, bnd]
  obtain ⟨x1, hxx1, h⟩ := bind_ok h
  refine bind_to (eLGX11_stanzaOf_4 R FU _ _ _ hxx1) ?_
  try simp only [ij_dn R, bnd]
  obtain rfl := Option.some.inj h
  rfl
set_option maxRecDepth 100000 in
set_option maxHeartbeats 4000000 in
theorem e_X11_stanzas {σ : St} {t : Nat} {M : MS}  {ρ : Int32} (R : MR σ t) (h : g_X11_stanzas M  = some ρ) : f_X11_stanzas (ij σ t M) t  = some ((fun r => r) ρ) := by
  unfold g_X11_stanzas at h
  unfold f_X11_stanzas
  try simp only [ij_dn R, ij_r0 R, ij_d0 R, ij_e0 R, ij_l0 R, ij_A0, ij_stA0, bnd]
  obtain ⟨j1, g2, h⟩ := bind_ok h
  refine bind_to g2 ?_
  refine if_to h (fun c3 h => ?_) (fun c3 h => ?_)
  · obtain ⟨j4, g5, h⟩ := bind_ok h
    refine bind_to g5 ?_
    obtain ⟨q6, g7, h⟩ := bind_ok h
    refine bind_to (e_X11_stanzaOf R g7) ?_
    obtain rfl := Option.some.inj h
    rfl
  · obtain rfl := Option.some.inj h
    rfl
set_option maxRecDepth 100000 in
set_option maxHeartbeats 4000000 in
theorem eLGX11_move_156 {σ : St} {t : Nat} {l1 : Int32} {l2 : Int32} {l3 : Int32} {l4 : Int32} {l6 : Int32} (R : MR σ t) : ∀ (n : Nat) (v7 : Int32) (μ : MS) y, LGX11_move_156 n l1 l2 l3 l4 l6 v7 μ = some y → LX11_move_156 n t l1 l2 l3 l4 l6 v7 (ij σ t μ) = some ((fun w => ij σ t w) y) := by
  intro n
  induction n with
  | zero => intro _ _ _ h; cases (show (none : Option _) = some _ from h)
  | succ n ihx32 =>
    intro v7 μ yx32 h
    rw [LGX11_move_156] at h
    rw [LX11_move_156]
    try simp only [ij_dn R, ij_r0 R, ij_d0 R, ij_e0 R, ij_l0 R, ij_A0, ij_stA0, ij_r3 R, ij_d3 R, ij_e3 R, ij_l3 R, ij_A3, ij_stA3, bnd]
    refine if_to h (fun c33 h => ?_) (fun c33 h => ?_)
    · obtain rfl := Option.some.inj h
      rfl
    · obtain ⟨q34, g35, h⟩ := bind_ok h
      refine bind_to (e_X11_copies R g35) ?_
      try simp only [ij_dn R, ij_r0 R, ij_d0 R, ij_e0 R, ij_l0 R, ij_A0, ij_stA0, ij_r3 R, ij_d3 R, ij_e3 R, ij_l3 R, ij_A3, ij_stA3, bnd]
      exact ihx32 _ _ _ h
set_option maxRecDepth 100000 in
set_option maxHeartbeats 4000000 in
theorem eLGX11_move_129 {σ : St} {t : Nat} {l1 : Int32} {l2 : Int32} {l3 : Int32} {l4 : Int32} {l5 : Int32} {l6 : Int32} (R : MR σ t) : ∀ (n : Nat) (v7 : Int32) (μ : MS) y, LGX11_move_129 n l1 l2 l3 l4 l5 l6 v7 μ = some y → LX11_move_129 n t l1 l2 l3 l4 l5 l6 v7 (ij σ t μ) = some ((fun w => ij σ t w) y) := by
  intro n
  induction n with
  | zero => intro _ _ _ h; cases (show (none : Option _) = some _ from h)
  | succ n ihx28 =>
    intro v7 μ yx28 h
    rw [LGX11_move_129] at h
    rw [LX11_move_129]
    try simp only [ij_dn R, ij_r0 R, ij_d0 R, ij_e0 R, ij_l0 R, ij_A0, ij_stA0, ij_r3 R, ij_d3 R, ij_e3 R, ij_l3 R, ij_A3, ij_stA3, bnd]
    refine if_to h (fun c29 h => ?_) (fun c29 h => ?_)
    · obtain rfl := Option.some.inj h
      rfl
    · obtain ⟨q30, g31, h⟩ := bind_ok h
      refine bind_to (e_X11_copies R g31) ?_
      try simp only [ij_dn R, ij_r0 R, ij_d0 R, ij_e0 R, ij_l0 R, ij_A0, ij_stA0, ij_r3 R, ij_d3 R, ij_e3 R, ij_l3 R, ij_A3, ij_stA3, bnd]
      exact ihx28 _ _ _ h
set_option maxRecDepth 100000 in
set_option maxHeartbeats 4000000 in
theorem eLGX11_move_97 {σ : St} {t : Nat} {l1 : Int32} {l2 : Int32} {l3 : Int32} {l4 : Int32} {l5 : Int32} {l6 : Int32} (R : MR σ t) : ∀ (n : Nat) (v7 : Int32) (μ : MS) y, LGX11_move_97 n l1 l2 l3 l4 l5 l6 v7 μ = some y → LX11_move_97 n t l1 l2 l3 l4 l5 l6 v7 (ij σ t μ) = some ((fun w => ij σ t w) y) := by
  intro n
  induction n with
  | zero => intro _ _ _ h; cases (show (none : Option _) = some _ from h)
  | succ n ihx22 =>
    intro v7 μ yx22 h
    rw [LGX11_move_97] at h
    rw [LX11_move_97]
    try simp only [ij_dn R, ij_r0 R, ij_d0 R, ij_e0 R, ij_l0 R, ij_A0, ij_stA0, ij_r3 R, ij_d3 R, ij_e3 R, ij_l3 R, ij_A3, ij_stA3, bnd]
    refine if_to h (fun c23 h => ?_) (fun c23 h => ?_)
    · obtain rfl := Option.some.inj h
      rfl
    · obtain ⟨q24, g25, h⟩ := bind_ok h
      refine bind_to (e_X11_of R g25) ?_
      obtain ⟨j26, g27, h⟩ := bind_ok h
      refine bind_to g27 ?_
      exact ihx22 _ _ _ h
set_option maxRecDepth 100000 in
set_option maxHeartbeats 4000000 in
theorem eLGX11_move_54 {σ : St} {t : Nat} {l1 : Int32} {l2 : Int32} {l3 : Int32} (R : MR σ t) : ∀ (n : Nat) (v4 : Int32) (μ : MS) y, LGX11_move_54 n l1 l2 l3 v4 μ = some y → LX11_move_54 n t l1 l2 l3 v4 (ij σ t μ) = some ((fun w => ij σ t w) y) := by
  intro n
  induction n with
  | zero => intro _ _ _ h; cases (show (none : Option _) = some _ from h)
  | succ n ihx16 =>
    intro v4 μ yx16 h
    rw [LGX11_move_54] at h
    rw [LX11_move_54]
    try simp only [ij_dn R, ij_r0 R, ij_d0 R, ij_e0 R, ij_l0 R, ij_A0, ij_stA0, ij_r3 R, ij_d3 R, ij_e3 R, ij_l3 R, ij_A3, ij_stA3, bnd]
    refine if_to h (fun c17 h => ?_) (fun c17 h => ?_)
    · obtain rfl := Option.some.inj h
      rfl
    · obtain ⟨x18, hxx18, h⟩ := bind_ok h
      refine bind_to (a := (fun (w : Int32) => w) x18) ?_ ?_
      · have h := hxx18
        refine if_to h (fun c19 h => ?_) (fun c19 h => ?_)
        · obtain rfl := Option.some.inj h
          rfl
        · obtain rfl := Option.some.inj h
          rfl
      · try simp only [ij_dn R, ij_r0 R, ij_d0 R, ij_e0 R, ij_l0 R, ij_A0, ij_stA0, ij_r3 R, ij_d3 R, ij_e3 R, ij_l3 R, ij_A3, ij_stA3, bnd]
        obtain ⟨x20, hxx20, h⟩ := bind_ok h
        refine bind_to (a := (fun (w : Int32) => w) x20) ?_ ?_
        · have h := hxx20
          refine if_to h (fun c21 h => ?_) (fun c21 h => ?_)
          · obtain rfl := Option.some.inj h
            rfl
          · obtain rfl := Option.some.inj h
            rfl
        · try simp only [ij_dn R, ij_r0 R, ij_d0 R, ij_e0 R, ij_l0 R, ij_A0, ij_stA0, ij_r3 R, ij_d3 R, ij_e3 R, ij_l3 R, ij_A3, ij_stA3, bnd]
          obtain ⟨x22, hxx22, h⟩ := bind_ok h
          refine bind_to (eLGX11_move_97 R FU _ _ _ hxx22) ?_
          try simp only [ij_dn R, ij_r0 R, ij_d0 R, ij_e0 R, ij_l0 R, ij_A0, ij_stA0, ij_r3 R, ij_d3 R, ij_e3 R, ij_l3 R, ij_A3, ij_stA3, bnd]
          obtain ⟨x28, hxx28, h⟩ := bind_ok h
          refine bind_to (eLGX11_move_129 R FU _ _ _ hxx28) ?_
          try simp only [ij_dn R, ij_r0 R, ij_d0 R, ij_e0 R, ij_l0 R, ij_A0, ij_stA0, ij_r3 R, ij_d3 R, ij_e3 R, ij_l3 R, ij_A3, ij_stA3, bnd]
          obtain ⟨x32, hxx32, h⟩ := bind_ok h
          refine bind_to (eLGX11_move_156 R FU _ _ _ hxx32) ?_
          try simp only [ij_dn R, ij_r0 R, ij_d0 R, ij_e0 R, ij_l0 R, ij_A0, ij_stA0, ij_r3 R, ij_d3 R, ij_e3 R, ij_l3 R, ij_A3, ij_stA3, bnd]
          obtain ⟨q36, g37, h⟩ := bind_ok h
          refine bind_to (e_X11_lays R g37) ?_
          try simp only [ij_dn R, ij_r0 R, ij_d0 R, ij_e0 R, ij_l0 R, ij_A0, ij_stA0, ij_r3 R, ij_d3 R, ij_e3 R, ij_l3 R, ij_A3, ij_stA3, bnd]
          exact ihx16 _ _ _ h
set_option maxRecDepth 100000 in
set_option maxHeartbeats 4000000 in
theorem e_X11_move {σ : St} {t : Nat} {M : MS} {p1 : Int32} {p2 : Int32} {p3 : Int32} {ρ : Int32 × MS} (R : MR σ t) (h : g_X11_move M p1 p2 p3 = some ρ) : f_X11_move (ij σ t M) t p1 p2 p3 = some ((fun r => (r.1, ij σ t r.2)) ρ) := by
  unfold g_X11_move at h
  unfold f_X11_move
  try simp only [ij_dn R, ij_r0 R, ij_d0 R, ij_e0 R, ij_l0 R, ij_A0, ij_stA0, ij_r3 R, ij_d3 R, ij_e3 R, ij_l3 R, ij_A3, ij_stA3, bnd]
  obtain ⟨q1, g2, h⟩ := bind_ok h
  refine bind_to (e_X11_isLine R g2) ?_
  refine if_to h (fun c3 h => ?_) (fun c3 h => ?_)
  · obtain rfl := Option.some.inj h
    rfl
  · obtain ⟨j4, g5, h⟩ := bind_ok h
    refine bind_to g5 ?_
    obtain ⟨q6, g7, h⟩ := bind_ok h
    refine bind_to (e_X11_in R g7) ?_
    refine if_to h (fun c8 h => ?_) (fun c8 h => ?_)
    · obtain rfl := Option.some.inj h
      rfl
    · obtain ⟨j9, g10, h⟩ := bind_ok h
      refine bind_to g10 ?_
      obtain ⟨q11, g12, h⟩ := bind_ok h
      refine bind_to (e_X11_in R g12) ?_
      refine if_to h (fun c13 h => ?_) (fun c13 h => ?_)
      · obtain ⟨q14, g15, h⟩ := bind_ok h
        refine bind_to (e_X11_keeps R g15) ?_
        try simp only [ij_dn R, ij_r0 R, ij_d0 R, ij_e0 R, ij_l0 R, ij_A0, ij_stA0, ij_r3 R, ij_d3 R, ij_e3 R, ij_l3 R, ij_A3, ij_stA3, bnd]
        obtain ⟨x16, hxx16, h⟩ := bind_ok h
        refine bind_to (eLGX11_move_54 R FU _ _ _ hxx16) ?_
        try simp only [ij_dn R, ij_r0 R, ij_d0 R, ij_e0 R, ij_l0 R, ij_A0, ij_stA0, ij_r3 R, ij_d3 R, ij_e3 R, ij_l3 R, ij_A3, ij_stA3, bnd]
        obtain ⟨q38, g39, h⟩ := bind_ok h
        refine bind_to (e_X11_stanzas R g39) ?_
        obtain rfl := Option.some.inj h
        rfl
      · obtain rfl := Option.some.inj h
        rfl
set_option maxRecDepth 100000 in
set_option maxHeartbeats 4000000 in
theorem e_X11_toggle {σ : St} {t : Nat} {M : MS} {p1 : Int32} {p2 : Int32} {ρ : Int32 × MS} (R : MR σ t) (h : g_X11_toggle M p1 p2 = some ρ) : f_X11_toggle (ij σ t M) t p1 p2 = some ((fun r => (r.1, ij σ t r.2)) ρ) := by
  unfold g_X11_toggle at h
  unfold f_X11_toggle
  try simp only [ij_dn R, ij_r0 R, ij_d0 R, ij_e0 R, ij_l0 R, ij_A0, ij_stA0, bnd]
  obtain ⟨q1, g2, h⟩ := bind_ok h
  refine bind_to (e_X11_isLine R g2) ?_
  refine if_to h (fun c3 h => ?_) (fun c3 h => ?_)
  · obtain ⟨q4, g5, h⟩ := bind_ok h
    refine bind_to (e_X11_keeps R g5) ?_
    try simp only [ij_dn R, ij_r0 R, ij_d0 R, ij_e0 R, ij_l0 R, ij_A0, ij_stA0, bnd]
    obtain ⟨x6, hxx6, h⟩ := bind_ok h
    refine bind_to (a := (fun (w : Int32) => w) x6) ?_ ?_
    · have h := hxx6
      refine if_to h (fun c7 h => ?_) (fun c7 h => ?_)
      · obtain rfl := Option.some.inj h
        rfl
      · obtain rfl := Option.some.inj h
        rfl
    · try simp only [ij_dn R, ij_r0 R, ij_d0 R, ij_e0 R, ij_l0 R, ij_A0, ij_stA0, bnd]
      obtain ⟨j8, g9, h⟩ := bind_ok h
      refine bind_to g9 ?_
      obtain ⟨j10, g11, h⟩ := bind_ok h
      refine bind_to g11 ?_
      obtain ⟨j12, g13, h⟩ := bind_ok h
      refine bind_to g13 ?_
      obtain rfl := Option.some.inj h
      rfl
  · obtain rfl := Option.some.inj h
    rfl
set_option maxRecDepth 100000 in
set_option maxHeartbeats 4000000 in
theorem e_X11_leans {σ : St} {t : Nat} {M : MS} {p1 : Int32} {ρ : Int32} (R : MR σ t) (h : g_X11_leans M p1 = some ρ) : f_X11_leans (ij σ t M) t p1 = some ((fun r => r) ρ) := by
  unfold g_X11_leans at h
  unfold f_X11_leans
  try simp only [ij_dn R, bnd]
  obtain ⟨q1, g2, h⟩ := bind_ok h
  refine bind_to (e_X11_of R g2) ?_
  refine if_to h (fun c3 h => ?_) (fun c3 h => ?_)
  · obtain rfl := Option.some.inj h
    rfl
  · obtain ⟨q4, g5, h⟩ := bind_ok h
    refine bind_to (e_X11_beginsStanza R g5) ?_
    refine if_to h (fun c6 h => ?_) (fun c6 h => ?_)
    · obtain rfl := Option.some.inj h
      rfl
    · obtain rfl := Option.some.inj h
      rfl
set_option maxRecDepth 100000 in
set_option maxHeartbeats 4000000 in
theorem eLGX11_numberOf_4 {σ : St} {t : Nat} {μ : MS} {l1 : Int32} (R : MR σ t) : ∀ (n : Nat) (v2 : Int32) (v3 : Int32) y, LGX11_numberOf_4 n μ l1 v2 v3 = some y → LX11_numberOf_4 n (ij σ t μ) t l1 v2 v3 = some ((fun w => w) y) := by
  intro n
  induction n with
  | zero => intro _ _ _ h; cases (show (none : Option _) = some _ from h)
  | succ n ihx1 =>
    intro v2 v3 yx1 h
    rw [LGX11_numberOf_4] at h
    rw [LX11_numberOf_4]
    try simp only [ij_dn R, bnd]
    refine if_to h (fun c2 h => ?_) (fun c2 h => ?_)
    · obtain rfl := Option.some.inj h
      rfl
    · obtain ⟨q3, g4, h⟩ := bind_ok h
      refine bind_to (e_X11_leans R g4) ?_
      obtain ⟨x5, hxx5, h⟩ := bind_ok h
      refine bind_to (a := (fun (w : Int32) => w) x5) ?_ ?_
      · have h := hxx5
        refine if_to h (fun c6 h => ?_) (fun c6 h => ?_)
        · obtain rfl := Option.some.inj h
          rfl
        · obtain rfl := Option.some.inj h
          rfl
      · try simp only [ij_dn R, bnd]
        exact ihx1 _ _ _ h
set_option maxRecDepth 100000 in
set_option maxHeartbeats 4000000 in
theorem e_X11_numberOf {σ : St} {t : Nat} {M : MS} {p1 : Int32} {ρ : Int32} (R : MR σ t) (h : g_X11_numberOf M p1 = some ρ) : f_X11_numberOf (ij σ t M) t p1 = some ((fun r => r) ρ) := by
  unfold g_X11_numberOf at h
  unfold f_X11_numberOf
  try simp only [ij_dn R, bnd]
  obtain ⟨x1, hxx1, h⟩ := bind_ok h
  refine bind_to (eLGX11_numberOf_4 R FU _ _ _ hxx1) ?_
  try simp only [ij_dn R, bnd]
  obtain rfl := Option.some.inj h
  rfl
set_option maxRecDepth 100000 in
set_option maxHeartbeats 4000000 in
theorem e_X11_begins {σ : St} {t : Nat} {M : MS} {p1 : Int32} {p2 : Int32} {p3 : Int32} {p4 : Int32} {p5 : Int32} {ρ : MS} (R : MR σ t) (h : g_X11_begins M p1 p2 p3 p4 p5 = some ρ) : f_X11_begins (ij σ t M) t p1 p2 p3 p4 p5 = some ((fun r => ij σ t r) ρ) := by
  unfold g_X11_begins at h
  unfold f_X11_begins
  try simp only [ij_dn R, ij_r0 R, ij_d0 R, ij_e0 R, ij_l0 R, ij_A0, ij_stA0, ij_r4 R, ij_d4 R, ij_e4 R, ij_l4 R, ij_A4, ij_stA4, ij_r5 R, ij_d5 R, ij_e5 R, ij_l5 R, ij_A5, ij_stA5, ij_r6 R, ij_d6 R, ij_e6 R, ij_l6 R, ij_A6, ij_stA6, ij_r7 R, ij_d7 R, ij_e7 R, ij_l7 R, ij_A7, ij_stA7, ij_r8 R, ij_d8 R, ij_e8 R, ij_l8 R, ij_A8, ij_stA8, ij_r9 R, ij_d9 R, ij_e9 R, ij_l9 R, ij_A9, ij_stA9, ij_I17, ij_stI17, bnd]
  obtain ⟨j1, g2, h⟩ := bind_ok h
  refine bind_to g2 ?_
  obtain ⟨j3, g4, h⟩ := bind_ok h
  refine bind_to g4 ?_
  obtain ⟨j5, g6, h⟩ := bind_ok h
  refine bind_to g6 ?_
  obtain ⟨q7, g8, h⟩ := bind_ok h
  refine bind_to (e_X11_lesser R g8) ?_
  obtain ⟨j9, g10, h⟩ := bind_ok h
  refine bind_to g10 ?_
  obtain ⟨j11, g12, h⟩ := bind_ok h
  refine bind_to g12 ?_
  obtain ⟨j13, g14, h⟩ := bind_ok h
  refine bind_to g14 ?_
  obtain ⟨j15, g16, h⟩ := bind_ok h
  refine bind_to g16 ?_
  obtain rfl := Option.some.inj h
  rfl
set_option maxRecDepth 100000 in
set_option maxHeartbeats 4000000 in
theorem eLGX11_wordFrom_2 {σ : St} {t : Nat} {μ : MS} {l1 : Int32} {l2 : Int32} (R : MR σ t) : ∀ (n : Nat) (v3 : Int32) y, LGX11_wordFrom_2 n μ l1 l2 v3 = some y → LX11_wordFrom_2 n (ij σ t μ) t l1 l2 v3 = some ((fun w => w) y) := by
  intro n
  induction n with
  | zero => intro _ _ h; cases (show (none : Option _) = some _ from h)
  | succ n ihx1 =>
    intro v3 yx1 h
    rw [LGX11_wordFrom_2] at h
    rw [LX11_wordFrom_2]
    try simp only [ij_dn R, bnd]
    obtain ⟨q2, g3, h⟩ := bind_ok h
    refine bind_to (e_X11_of R g3) ?_
    refine if_to h (fun c4 h => ?_) (fun c4 h => ?_)
    · obtain rfl := Option.some.inj h
      rfl
    · obtain ⟨q5, g6, h⟩ := bind_ok h
      refine bind_to (e_X11_of R g6) ?_
      refine if_to h (fun c7 h => ?_) (fun c7 h => ?_)
      · obtain rfl := Option.some.inj h
        rfl
      · exact ihx1 _ _ h
set_option maxRecDepth 100000 in
set_option maxHeartbeats 4000000 in
theorem e_X11_wordFrom {σ : St} {t : Nat} {M : MS} {p1 : Int32} {p2 : Int32} {ρ : Int32} (R : MR σ t) (h : g_X11_wordFrom M p1 p2 = some ρ) : f_X11_wordFrom (ij σ t M) t p1 p2 = some ((fun r => r) ρ) := by
  unfold g_X11_wordFrom at h
  unfold f_X11_wordFrom
  try simp only [ij_dn R, bnd]
  obtain ⟨x1, hxx1, h⟩ := bind_ok h
  refine bind_to (eLGX11_wordFrom_2 R FU _ _ hxx1) ?_
  try simp only [ij_dn R, bnd]
  obtain rfl := Option.some.inj h
  rfl
set_option maxRecDepth 100000 in
set_option maxHeartbeats 4000000 in
theorem eLGX11_laysRows_69 {σ : St} {t : Nat} {l1 : Int32} {l2 : Int32} {l3 : Int32} (R : MR σ t) : ∀ (n : Nat) (v4 : Int32) (μ : MS) y, LGX11_laysRows_69 n l1 l2 l3 v4 μ = some y → LX11_laysRows_69 n t l1 l2 l3 v4 (ij σ t μ) = some ((fun w => ij σ t w) y) := by
  intro n
  induction n with
  | zero => intro _ _ _ h; cases (show (none : Option _) = some _ from h)
  | succ n ihx15 =>
    intro v4 μ yx15 h
    rw [LGX11_laysRows_69] at h
    rw [LX11_laysRows_69]
    try simp only [ij_dn R, ij_r0 R, ij_d0 R, ij_e0 R, ij_l0 R, ij_A0, ij_stA0, ij_r6 R, ij_d6 R, ij_e6 R, ij_l6 R, ij_A6, ij_stA6, ij_r7 R, ij_d7 R, ij_e7 R, ij_l7 R, ij_A7, ij_stA7, ij_I17, ij_stI17, bnd]
    obtain ⟨q16, g17, h⟩ := bind_ok h
    refine bind_to (e_X11_of R g17) ?_
    refine if_to h (fun c18 h => ?_) (fun c18 h => ?_)
    · obtain rfl := Option.some.inj h
      rfl
    · obtain ⟨q19, g20, h⟩ := bind_ok h
      refine bind_to (e_X11_wordFrom R g20) ?_
      obtain ⟨j21, g22, h⟩ := bind_ok h
      refine bind_to g22 ?_
      obtain ⟨x23, hxx23, h⟩ := bind_ok h
      refine bind_to (a := (fun (w : Int32) => w) x23) ?_ ?_
      · have h := hxx23
        refine if_to h (fun c24 h => ?_) (fun c24 h => ?_)
        · obtain rfl := Option.some.inj h
          rfl
        · obtain rfl := Option.some.inj h
          rfl
      · try simp only [ij_dn R, ij_r0 R, ij_d0 R, ij_e0 R, ij_l0 R, ij_A0, ij_stA0, ij_r6 R, ij_d6 R, ij_e6 R, ij_l6 R, ij_A6, ij_stA6, ij_r7 R, ij_d7 R, ij_e7 R, ij_l7 R, ij_A7, ij_stA7, ij_I17, ij_stI17, bnd]
        obtain ⟨j25, g26, h⟩ := bind_ok h
        refine bind_to g26 ?_
        obtain ⟨j27, g28, h⟩ := bind_ok h
        refine bind_to g28 ?_
        obtain ⟨j29, g30, h⟩ := bind_ok h
        refine bind_to g30 ?_
        obtain ⟨x31, hxx31, h⟩ := bind_ok h
        refine bind_to (a := (fun (w : Int32 × MS) => (w.1, ij σ t w.2)) x31) ?_ ?_
        · have h := hxx31
          refine if_to h (fun c32 h => ?_) (fun c32 h => ?_)
          · refine if_to h (fun c33 h => ?_) (fun c33 h => ?_)
            · obtain ⟨j34, g35, h⟩ := bind_ok h
              refine bind_to g35 ?_
              obtain ⟨j36, g37, h⟩ := bind_ok h
              refine bind_to g37 ?_
              obtain ⟨q38, g39, h⟩ := bind_ok h
              refine bind_to (e_X11_begins R g39) ?_
              try simp only [ij_dn R, ij_r0 R, ij_d0 R, ij_e0 R, ij_l0 R, ij_A0, ij_stA0, ij_r6 R, ij_d6 R, ij_e6 R, ij_l6 R, ij_A6, ij_stA6, ij_r7 R, ij_d7 R, ij_e7 R, ij_l7 R, ij_A7, ij_stA7, ij_I17, ij_stI17, bnd]
              obtain rfl := Option.some.inj h
              rfl
            · obtain ⟨j40, g41, h⟩ := bind_ok h
              refine bind_to g41 ?_
              obtain ⟨q42, g43, h⟩ := bind_ok h
              refine bind_to (e_X11_begins R g43) ?_
              try simp only [ij_dn R, ij_r0 R, ij_d0 R, ij_e0 R, ij_l0 R, ij_A0, ij_stA0, ij_r6 R, ij_d6 R, ij_e6 R, ij_l6 R, ij_A6, ij_stA6, ij_r7 R, ij_d7 R, ij_e7 R, ij_l7 R, ij_A7, ij_stA7, ij_I17, ij_stI17, bnd]
              obtain rfl := Option.some.inj h
              rfl
          · obtain ⟨j44, g45, h⟩ := bind_ok h
            refine bind_to g45 ?_
            obtain ⟨j46, g47, h⟩ := bind_ok h
            refine bind_to g47 ?_
            obtain rfl := Option.some.inj h
            rfl
        · try simp only [ij_dn R, ij_r0 R, ij_d0 R, ij_e0 R, ij_l0 R, ij_A0, ij_stA0, ij_r6 R, ij_d6 R, ij_e6 R, ij_l6 R, ij_A6, ij_stA6, ij_r7 R, ij_d7 R, ij_e7 R, ij_l7 R, ij_A7, ij_stA7, ij_I17, ij_stI17, bnd]
          exact ihx15 _ _ _ h
set_option maxRecDepth 100000 in
set_option maxHeartbeats 4000000 in
theorem e_X11_laysRows {σ : St} {t : Nat} {M : MS} {p1 : Int32} {ρ : MS} (R : MR σ t) (h : g_X11_laysRows M p1 = some ρ) : f_X11_laysRows (ij σ t M) t p1 = some ((fun r => ij σ t r) ρ) := by
  unfold g_X11_laysRows at h
  unfold f_X11_laysRows
  try simp only [ij_dn R, ij_r0 R, ij_d0 R, ij_e0 R, ij_l0 R, ij_A0, ij_stA0, ij_r6 R, ij_d6 R, ij_e6 R, ij_l6 R, ij_A6, ij_stA6, ij_r7 R, ij_d7 R, ij_e7 R, ij_l7 R, ij_A7, ij_stA7, ij_I17, ij_stI17, bnd]
  obtain ⟨q1, g2, h⟩ := bind_ok h
  refine bind_to (e_X11_of R g2) ?_
  obtain ⟨j3, g4, h⟩ := bind_ok h
  refine bind_to g4 ?_
  obtain ⟨q5, g6, h⟩ := bind_ok h
  refine bind_to (e_X11_leans R g6) ?_
  obtain ⟨x7, hxx7, h⟩ := bind_ok h
  refine bind_to (a := (fun (w : Int32) => w) x7) ?_ ?_
  · have h := hxx7
    refine if_to h (fun c8 h => ?_) (fun c8 h => ?_)
    · obtain rfl := Option.some.inj h
      rfl
    · obtain ⟨j9, g10, h⟩ := bind_ok h
      refine bind_to g10 ?_
      obtain ⟨j11, g12, h⟩ := bind_ok h
      refine bind_to g12 ?_
      obtain rfl := Option.some.inj h
      rfl
  · try simp only [ij_dn R, ij_r0 R, ij_d0 R, ij_e0 R, ij_l0 R, ij_A0, ij_stA0, ij_r6 R, ij_d6 R, ij_e6 R, ij_l6 R, ij_A6, ij_stA6, ij_r7 R, ij_d7 R, ij_e7 R, ij_l7 R, ij_A7, ij_stA7, ij_I17, ij_stI17, bnd]
    obtain ⟨q13, g14, h⟩ := bind_ok h
    refine bind_to (e_X11_begins R g14) ?_
    try simp only [ij_dn R, ij_r0 R, ij_d0 R, ij_e0 R, ij_l0 R, ij_A0, ij_stA0, ij_r6 R, ij_d6 R, ij_e6 R, ij_l6 R, ij_A6, ij_stA6, ij_r7 R, ij_d7 R, ij_e7 R, ij_l7 R, ij_A7, ij_stA7, ij_I17, ij_stI17, bnd]
    obtain ⟨x15, hxx15, h⟩ := bind_ok h
    refine bind_to (eLGX11_laysRows_69 R FU _ _ _ hxx15) ?_
    try simp only [ij_dn R, ij_r0 R, ij_d0 R, ij_e0 R, ij_l0 R, ij_A0, ij_stA0, ij_r6 R, ij_d6 R, ij_e6 R, ij_l6 R, ij_A6, ij_stA6, ij_r7 R, ij_d7 R, ij_e7 R, ij_l7 R, ij_A7, ij_stA7, ij_I17, ij_stI17, bnd]
    obtain rfl := Option.some.inj h
    rfl
set_option maxRecDepth 100000 in
set_option maxHeartbeats 4000000 in
theorem e_X11_turns {σ : St} {t : Nat} {M : MS}  {ρ : MS} (R : MR σ t) (h : g_X11_turns M  = some ρ) : f_X11_turns (ij σ t M) t  = some ((fun r => ij σ t r) ρ) := by
  unfold g_X11_turns at h
  unfold f_X11_turns
  try simp only [ij_dn R, ij_I22, ij_stI22, ij_I23, ij_stI23, ij_I24, ij_stI24, bnd]
  obtain rfl := Option.some.inj h
  rfl
set_option maxRecDepth 100000 in
set_option maxHeartbeats 4000000 in
theorem eLGX11_paginates_154 {σ : St} {t : Nat} {l1 : Int32} {l2 : Int32} {l3 : Int32} (R : MR σ t) : ∀ (n : Nat) (v4 : Int32) (μ : MS) y, LGX11_paginates_154 n l1 l2 l3 v4 μ = some y → LX11_paginates_154 n t l1 l2 l3 v4 (ij σ t μ) = some ((fun w => ij σ t w) y) := by
  intro n
  induction n with
  | zero => intro _ _ _ h; cases (show (none : Option _) = some _ from h)
  | succ n ihx35 =>
    intro v4 μ yx35 h
    rw [LGX11_paginates_154] at h
    rw [LX11_paginates_154]
    try simp only [ij_dn R, ij_r0 R, ij_d0 R, ij_e0 R, ij_l0 R, ij_A0, ij_stA0, ij_r10 R, ij_d10 R, ij_e10 R, ij_l10 R, ij_A10, ij_stA10, ij_r11 R, ij_d11 R, ij_e11 R, ij_l11 R, ij_A11, ij_stA11, ij_r12 R, ij_d12 R, ij_e12 R, ij_l12 R, ij_A12, ij_stA12, ij_r13 R, ij_d13 R, ij_e13 R, ij_l13 R, ij_A13, ij_stA13, ij_r14 R, ij_d14 R, ij_e14 R, ij_l14 R, ij_A14, ij_stA14, ij_r15 R, ij_d15 R, ij_e15 R, ij_l15 R, ij_A15, ij_stA15, ij_I22, ij_stI22, ij_I23, ij_stI23, ij_I24, ij_stI24, bnd]
    obtain ⟨j36, g37, h⟩ := bind_ok h
    refine bind_to g37 ?_
    refine if_to h (fun c38 h => ?_) (fun c38 h => ?_)
    · obtain rfl := Option.some.inj h
      rfl
    · obtain ⟨x39, hxx39, h⟩ := bind_ok h
      refine bind_to (a := (fun (w : MS) => ij σ t w) x39) ?_ ?_
      · have h := hxx39
        refine if_to h (fun c40 h => ?_) (fun c40 h => ?_)
        · obtain rfl := Option.some.inj h
          rfl
        · obtain ⟨q41, g42, h⟩ := bind_ok h
          refine bind_to (e_X11_turns R g42) ?_
          try simp only [ij_dn R, ij_r0 R, ij_d0 R, ij_e0 R, ij_l0 R, ij_A0, ij_stA0, ij_r10 R, ij_d10 R, ij_e10 R, ij_l10 R, ij_A10, ij_stA10, ij_r11 R, ij_d11 R, ij_e11 R, ij_l11 R, ij_A11, ij_stA11, ij_r12 R, ij_d12 R, ij_e12 R, ij_l12 R, ij_A12, ij_stA12, ij_r13 R, ij_d13 R, ij_e13 R, ij_l13 R, ij_A13, ij_stA13, ij_r14 R, ij_d14 R, ij_e14 R, ij_l14 R, ij_A14, ij_stA14, ij_r15 R, ij_d15 R, ij_e15 R, ij_l15 R, ij_A15, ij_stA15, ij_I22, ij_stI22, ij_I23, ij_stI23, ij_I24, ij_stI24, bnd]
          obtain rfl := Option.some.inj h
          rfl
      · try simp only [ij_dn R, ij_r0 R, ij_d0 R, ij_e0 R, ij_l0 R, ij_A0, ij_stA0, ij_r10 R, ij_d10 R, ij_e10 R, ij_l10 R, ij_A10, ij_stA10, ij_r11 R, ij_d11 R, ij_e11 R, ij_l11 R, ij_A11, ij_stA11, ij_r12 R, ij_d12 R, ij_e12 R, ij_l12 R, ij_A12, ij_stA12, ij_r13 R, ij_d13 R, ij_e13 R, ij_l13 R, ij_A13, ij_stA13, ij_r14 R, ij_d14 R, ij_e14 R, ij_l14 R, ij_A14, ij_stA14, ij_r15 R, ij_d15 R, ij_e15 R, ij_l15 R, ij_A15, ij_stA15, ij_I22, ij_stI22, ij_I23, ij_stI23, ij_I24, ij_stI24, bnd]
        obtain ⟨j43, g44, h⟩ := bind_ok h
        refine bind_to g44 ?_
        obtain ⟨j45, g46, h⟩ := bind_ok h
        refine bind_to g46 ?_
        exact ihx35 _ _ _ h
set_option maxRecDepth 100000 in
set_option maxHeartbeats 4000000 in
theorem e_X11_paginates {σ : St} {t : Nat} {M : MS} {p1 : Int32} {ρ : MS} (R : MR σ t) (h : g_X11_paginates M p1 = some ρ) : f_X11_paginates (ij σ t M) t p1 = some ((fun r => ij σ t r) ρ) := by
  unfold g_X11_paginates at h
  unfold f_X11_paginates
  try simp only [ij_dn R, ij_r0 R, ij_d0 R, ij_e0 R, ij_l0 R, ij_A0, ij_stA0, ij_r10 R, ij_d10 R, ij_e10 R, ij_l10 R, ij_A10, ij_stA10, ij_r11 R, ij_d11 R, ij_e11 R, ij_l11 R, ij_A11, ij_stA11, ij_r12 R, ij_d12 R, ij_e12 R, ij_l12 R, ij_A12, ij_stA12, ij_r13 R, ij_d13 R, ij_e13 R, ij_l13 R, ij_A13, ij_stA13, ij_r14 R, ij_d14 R, ij_e14 R, ij_l14 R, ij_A14, ij_stA14, ij_r15 R, ij_d15 R, ij_e15 R, ij_l15 R, ij_A15, ij_stA15, ij_I22, ij_stI22, ij_I23, ij_stI23, ij_I24, ij_stI24, bnd]
  obtain ⟨j1, g2, h⟩ := bind_ok h
  refine bind_to g2 ?_
  obtain ⟨j3, g4, h⟩ := bind_ok h
  refine bind_to g4 ?_
  obtain ⟨q5, g6, h⟩ := bind_ok h
  refine bind_to (e_X11_beginsStanza R g6) ?_
  obtain ⟨x7, hxx7, h⟩ := bind_ok h
  refine bind_to (a := (fun (w : MS) => ij σ t w) x7) ?_ ?_
  · have h := hxx7
    refine if_to h (fun c8 h => ?_) (fun c8 h => ?_)
    · refine if_to h (fun c9 h => ?_) (fun c9 h => ?_)
      · obtain rfl := Option.some.inj h
        rfl
      · refine if_to h (fun c10 h => ?_) (fun c10 h => ?_)
        · obtain rfl := Option.some.inj h
          rfl
        · obtain ⟨q11, g12, h⟩ := bind_ok h
          refine bind_to (e_X11_turns R g12) ?_
          try simp only [ij_dn R, ij_r0 R, ij_d0 R, ij_e0 R, ij_l0 R, ij_A0, ij_stA0, ij_r10 R, ij_d10 R, ij_e10 R, ij_l10 R, ij_A10, ij_stA10, ij_r11 R, ij_d11 R, ij_e11 R, ij_l11 R, ij_A11, ij_stA11, ij_r12 R, ij_d12 R, ij_e12 R, ij_l12 R, ij_A12, ij_stA12, ij_r13 R, ij_d13 R, ij_e13 R, ij_l13 R, ij_A13, ij_stA13, ij_r14 R, ij_d14 R, ij_e14 R, ij_l14 R, ij_A14, ij_stA14, ij_r15 R, ij_d15 R, ij_e15 R, ij_l15 R, ij_A15, ij_stA15, ij_I22, ij_stI22, ij_I23, ij_stI23, ij_I24, ij_stI24, bnd]
          obtain rfl := Option.some.inj h
          rfl
    · obtain ⟨j13, g14, h⟩ := bind_ok h
      refine bind_to g14 ?_
      obtain ⟨j15, g16, h⟩ := bind_ok h
      refine bind_to g16 ?_
      obtain ⟨j17, g18, h⟩ := bind_ok h
      refine bind_to g18 ?_
      obtain ⟨x19, hxx19, h⟩ := bind_ok h
      refine bind_to (a := (fun (w : Int32) => w) x19) ?_ ?_
      · have h := hxx19
        refine if_to h (fun c20 h => ?_) (fun c20 h => ?_)
        · obtain rfl := Option.some.inj h
          rfl
        · refine if_to h (fun c21 h => ?_) (fun c21 h => ?_)
          · obtain rfl := Option.some.inj h
            rfl
          · refine if_to h (fun c22 h => ?_) (fun c22 h => ?_)
            · obtain rfl := Option.some.inj h
              rfl
            · obtain rfl := Option.some.inj h
              rfl
      · try simp only [ij_dn R, ij_r0 R, ij_d0 R, ij_e0 R, ij_l0 R, ij_A0, ij_stA0, ij_r10 R, ij_d10 R, ij_e10 R, ij_l10 R, ij_A10, ij_stA10, ij_r11 R, ij_d11 R, ij_e11 R, ij_l11 R, ij_A11, ij_stA11, ij_r12 R, ij_d12 R, ij_e12 R, ij_l12 R, ij_A12, ij_stA12, ij_r13 R, ij_d13 R, ij_e13 R, ij_l13 R, ij_A13, ij_stA13, ij_r14 R, ij_d14 R, ij_e14 R, ij_l14 R, ij_A14, ij_stA14, ij_r15 R, ij_d15 R, ij_e15 R, ij_l15 R, ij_A15, ij_stA15, ij_I22, ij_stI22, ij_I23, ij_stI23, ij_I24, ij_stI24, bnd]
        obtain ⟨x23, hxx23, h⟩ := bind_ok h
        refine bind_to (a := (fun (w : MS) => ij σ t w) x23) ?_ ?_
        · have h := hxx23
          refine if_to h (fun c24 h => ?_) (fun c24 h => ?_)
          · refine if_to h (fun c25 h => ?_) (fun c25 h => ?_)
            · obtain rfl := Option.some.inj h
              rfl
            · obtain rfl := Option.some.inj h
              rfl
          · refine if_to h (fun c26 h => ?_) (fun c26 h => ?_)
            · obtain ⟨q27, g28, h⟩ := bind_ok h
              refine bind_to (e_X11_turns R g28) ?_
              try simp only [ij_dn R, ij_r0 R, ij_d0 R, ij_e0 R, ij_l0 R, ij_A0, ij_stA0, ij_r10 R, ij_d10 R, ij_e10 R, ij_l10 R, ij_A10, ij_stA10, ij_r11 R, ij_d11 R, ij_e11 R, ij_l11 R, ij_A11, ij_stA11, ij_r12 R, ij_d12 R, ij_e12 R, ij_l12 R, ij_A12, ij_stA12, ij_r13 R, ij_d13 R, ij_e13 R, ij_l13 R, ij_A13, ij_stA13, ij_r14 R, ij_d14 R, ij_e14 R, ij_l14 R, ij_A14, ij_stA14, ij_r15 R, ij_d15 R, ij_e15 R, ij_l15 R, ij_A15, ij_stA15, ij_I22, ij_stI22, ij_I23, ij_stI23, ij_I24, ij_stI24, bnd]
              obtain rfl := Option.some.inj h
              rfl
            · refine if_to h (fun c29 h => ?_) (fun c29 h => ?_)
              · refine if_to h (fun c30 h => ?_) (fun c30 h => ?_)
                · obtain rfl := Option.some.inj h
                  rfl
                · obtain rfl := Option.some.inj h
                  rfl
              · obtain ⟨q31, g32, h⟩ := bind_ok h
                refine bind_to (e_X11_turns R g32) ?_
                try simp only [ij_dn R, ij_r0 R, ij_d0 R, ij_e0 R, ij_l0 R, ij_A0, ij_stA0, ij_r10 R, ij_d10 R, ij_e10 R, ij_l10 R, ij_A10, ij_stA10, ij_r11 R, ij_d11 R, ij_e11 R, ij_l11 R, ij_A11, ij_stA11, ij_r12 R, ij_d12 R, ij_e12 R, ij_l12 R, ij_A12, ij_stA12, ij_r13 R, ij_d13 R, ij_e13 R, ij_l13 R, ij_A13, ij_stA13, ij_r14 R, ij_d14 R, ij_e14 R, ij_l14 R, ij_A14, ij_stA14, ij_r15 R, ij_d15 R, ij_e15 R, ij_l15 R, ij_A15, ij_stA15, ij_I22, ij_stI22, ij_I23, ij_stI23, ij_I24, ij_stI24, bnd]
                obtain rfl := Option.some.inj h
                rfl
        · try simp only [ij_dn R, ij_r0 R, ij_d0 R, ij_e0 R, ij_l0 R, ij_A0, ij_stA0, ij_r10 R, ij_d10 R, ij_e10 R, ij_l10 R, ij_A10, ij_stA10, ij_r11 R, ij_d11 R, ij_e11 R, ij_l11 R, ij_A11, ij_stA11, ij_r12 R, ij_d12 R, ij_e12 R, ij_l12 R, ij_A12, ij_stA12, ij_r13 R, ij_d13 R, ij_e13 R, ij_l13 R, ij_A13, ij_stA13, ij_r14 R, ij_d14 R, ij_e14 R, ij_l14 R, ij_A14, ij_stA14, ij_r15 R, ij_d15 R, ij_e15 R, ij_l15 R, ij_A15, ij_stA15, ij_I22, ij_stI22, ij_I23, ij_stI23, ij_I24, ij_stI24, bnd]
          obtain rfl := Option.some.inj h
          rfl
  · try simp only [ij_dn R, ij_r0 R, ij_d0 R, ij_e0 R, ij_l0 R, ij_A0, ij_stA0, ij_r10 R, ij_d10 R, ij_e10 R, ij_l10 R, ij_A10, ij_stA10, ij_r11 R, ij_d11 R, ij_e11 R, ij_l11 R, ij_A11, ij_stA11, ij_r12 R, ij_d12 R, ij_e12 R, ij_l12 R, ij_A12, ij_stA12, ij_r13 R, ij_d13 R, ij_e13 R, ij_l13 R, ij_A13, ij_stA13, ij_r14 R, ij_d14 R, ij_e14 R, ij_l14 R, ij_A14, ij_stA14, ij_r15 R, ij_d15 R, ij_e15 R, ij_l15 R, ij_A15, ij_stA15, ij_I22, ij_stI22, ij_I23, ij_stI23, ij_I24, ij_stI24, bnd]
    obtain ⟨j33, g34, h⟩ := bind_ok h
    refine bind_to g34 ?_
    obtain ⟨x35, hxx35, h⟩ := bind_ok h
    refine bind_to (eLGX11_paginates_154 R FU _ _ _ hxx35) ?_
    try simp only [ij_dn R, ij_r0 R, ij_d0 R, ij_e0 R, ij_l0 R, ij_A0, ij_stA0, ij_r10 R, ij_d10 R, ij_e10 R, ij_l10 R, ij_A10, ij_stA10, ij_r11 R, ij_d11 R, ij_e11 R, ij_l11 R, ij_A11, ij_stA11, ij_r12 R, ij_d12 R, ij_e12 R, ij_l12 R, ij_A12, ij_stA12, ij_r13 R, ij_d13 R, ij_e13 R, ij_l13 R, ij_A13, ij_stA13, ij_r14 R, ij_d14 R, ij_e14 R, ij_l14 R, ij_A14, ij_stA14, ij_r15 R, ij_d15 R, ij_e15 R, ij_l15 R, ij_A15, ij_stA15, ij_I22, ij_stI22, ij_I23, ij_stI23, ij_I24, ij_stI24, bnd]
    obtain rfl := Option.some.inj h
    rfl
set_option maxRecDepth 100000 in
set_option maxHeartbeats 4000000 in
theorem eLGX11_draws_116 {σ : St} {t : Nat}  (R : MR σ t) : ∀ (n : Nat) (v2 : Int32) (μ : MS) y, LGX11_draws_116 n v2 μ = some y → LX11_draws_116 n t v2 (ij σ t μ) = some ((fun w => ij σ t w) y) := by
  intro n
  induction n with
  | zero => intro _ _ _ h; cases (show (none : Option _) = some _ from h)
  | succ n ihx27 =>
    intro v2 μ yx27 h
    rw [LGX11_draws_116] at h
    rw [LX11_draws_116]
    try simp only [ij_dn R, ij_r0 R, ij_d0 R, ij_e0 R, ij_l0 R, ij_A0, ij_stA0, ij_r12 R, ij_d12 R, ij_e12 R, ij_l12 R, ij_A12, ij_stA12, ij_r13 R, ij_d13 R, ij_e13 R, ij_l13 R, ij_A13, ij_stA13, ij_r14 R, ij_d14 R, ij_e14 R, ij_l14 R, ij_A14, ij_stA14, ij_r15 R, ij_d15 R, ij_e15 R, ij_l15 R, ij_A15, ij_stA15, ij_I17, ij_stI17, ij_I22, ij_stI22, ij_I23, ij_stI23, ij_I24, ij_stI24, bnd]
    obtain ⟨j28, g29, h⟩ := bind_ok h
    refine bind_to g29 ?_
    refine if_to h (fun c30 h => ?_) (fun c30 h => ?_)
    · obtain rfl := Option.some.inj h
      rfl
    · obtain ⟨q31, g32, h⟩ := bind_ok h
      refine bind_to (e_X11_paginates R g32) ?_
      try simp only [ij_dn R, ij_r0 R, ij_d0 R, ij_e0 R, ij_l0 R, ij_A0, ij_stA0, ij_r12 R, ij_d12 R, ij_e12 R, ij_l12 R, ij_A12, ij_stA12, ij_r13 R, ij_d13 R, ij_e13 R, ij_l13 R, ij_A13, ij_stA13, ij_r14 R, ij_d14 R, ij_e14 R, ij_l14 R, ij_A14, ij_stA14, ij_r15 R, ij_d15 R, ij_e15 R, ij_l15 R, ij_A15, ij_stA15, ij_I17, ij_stI17, ij_I22, ij_stI22, ij_I23, ij_stI23, ij_I24, ij_stI24, bnd]
      exact ihx27 _ _ _ h
set_option maxRecDepth 100000 in
set_option maxHeartbeats 4000000 in
theorem eLGX11_draws_9 {σ : St} {t : Nat}  (R : MR σ t) : ∀ (n : Nat) (v1 : Int32) (v2 : Int32) (μ : MS) y, LGX11_draws_9 n v1 v2 μ = some y → LX11_draws_9 n t v1 v2 (ij σ t μ) = some ((fun w => ij σ t w) y) := by
  intro n
  induction n with
  | zero => intro _ _ _ _ h; cases (show (none : Option _) = some _ from h)
  | succ n ihx1 =>
    intro v1 v2 μ yx1 h
    rw [LGX11_draws_9] at h
    rw [LX11_draws_9]
    try simp only [ij_dn R, ij_r0 R, ij_d0 R, ij_e0 R, ij_l0 R, ij_A0, ij_stA0, ij_r12 R, ij_d12 R, ij_e12 R, ij_l12 R, ij_A12, ij_stA12, ij_r13 R, ij_d13 R, ij_e13 R, ij_l13 R, ij_A13, ij_stA13, ij_r14 R, ij_d14 R, ij_e14 R, ij_l14 R, ij_A14, ij_stA14, ij_r15 R, ij_d15 R, ij_e15 R, ij_l15 R, ij_A15, ij_stA15, ij_I17, ij_stI17, ij_I22, ij_stI22, ij_I23, ij_stI23, ij_I24, ij_stI24, bnd]
    obtain ⟨j2, g3, h⟩ := bind_ok h
    refine bind_to g3 ?_
    refine if_to h (fun c4 h => ?_) (fun c4 h => ?_)
    · obtain rfl := Option.some.inj h
      rfl
    · obtain ⟨q5, g6, h⟩ := bind_ok h
      refine bind_to (e_X11_beginsStanza R g6) ?_
      obtain ⟨x7, hxx7, h⟩ := bind_ok h
      refine bind_to (a := (fun (w : Int32 × MS) => (w.1, ij σ t w.2)) x7) ?_ ?_
      · have h := hxx7
        refine if_to h (fun c8 h => ?_) (fun c8 h => ?_)
        · obtain rfl := Option.some.inj h
          rfl
        · obtain ⟨j9, g10, h⟩ := bind_ok h
          refine bind_to g10 ?_
          obtain rfl := Option.some.inj h
          rfl
      · try simp only [ij_dn R, ij_r0 R, ij_d0 R, ij_e0 R, ij_l0 R, ij_A0, ij_stA0, ij_r12 R, ij_d12 R, ij_e12 R, ij_l12 R, ij_A12, ij_stA12, ij_r13 R, ij_d13 R, ij_e13 R, ij_l13 R, ij_A13, ij_stA13, ij_r14 R, ij_d14 R, ij_e14 R, ij_l14 R, ij_A14, ij_stA14, ij_r15 R, ij_d15 R, ij_e15 R, ij_l15 R, ij_A15, ij_stA15, ij_I17, ij_stI17, ij_I22, ij_stI22, ij_I23, ij_stI23, ij_I24, ij_stI24, bnd]
        obtain ⟨j11, g12, h⟩ := bind_ok h
        refine bind_to g12 ?_
        obtain ⟨j13, g14, h⟩ := bind_ok h
        refine bind_to g14 ?_
        obtain ⟨q15, g16, h⟩ := bind_ok h
        refine bind_to (e_X11_laysRows R g16) ?_
        try simp only [ij_dn R, ij_r0 R, ij_d0 R, ij_e0 R, ij_l0 R, ij_A0, ij_stA0, ij_r12 R, ij_d12 R, ij_e12 R, ij_l12 R, ij_A12, ij_stA12, ij_r13 R, ij_d13 R, ij_e13 R, ij_l13 R, ij_A13, ij_stA13, ij_r14 R, ij_d14 R, ij_e14 R, ij_l14 R, ij_A14, ij_stA14, ij_r15 R, ij_d15 R, ij_e15 R, ij_l15 R, ij_A15, ij_stA15, ij_I17, ij_stI17, ij_I22, ij_stI22, ij_I23, ij_stI23, ij_I24, ij_stI24, bnd]
        obtain ⟨j17, g18, h⟩ := bind_ok h
        refine bind_to g18 ?_
        obtain ⟨j19, g20, h⟩ := bind_ok h
        refine bind_to g20 ?_
        obtain ⟨j21, g22, h⟩ := bind_ok h
        refine bind_to g22 ?_
        obtain ⟨j23, g24, h⟩ := bind_ok h
        refine bind_to g24 ?_
        obtain ⟨j25, g26, h⟩ := bind_ok h
        refine bind_to g26 ?_
        exact ihx1 _ _ _ _ h
set_option maxRecDepth 100000 in
set_option maxHeartbeats 4000000 in
theorem e_X11_draws {σ : St} {t : Nat} {M : MS}  {ρ : MS} (R : MR σ t) (h : g_X11_draws M  = some ρ) : f_X11_draws (ij σ t M) t  = some ((fun r => ij σ t r) ρ) := by
  unfold g_X11_draws at h
  unfold f_X11_draws
  try simp only [ij_dn R, ij_r0 R, ij_d0 R, ij_e0 R, ij_l0 R, ij_A0, ij_stA0, ij_r12 R, ij_d12 R, ij_e12 R, ij_l12 R, ij_A12, ij_stA12, ij_r13 R, ij_d13 R, ij_e13 R, ij_l13 R, ij_A13, ij_stA13, ij_r14 R, ij_d14 R, ij_e14 R, ij_l14 R, ij_A14, ij_stA14, ij_r15 R, ij_d15 R, ij_e15 R, ij_l15 R, ij_A15, ij_stA15, ij_I17, ij_stI17, ij_I22, ij_stI22, ij_I23, ij_stI23, ij_I24, ij_stI24, bnd]
  obtain ⟨x1, hxx1, h⟩ := bind_ok h
  refine bind_to (eLGX11_draws_9 R FU _ _ _ _ hxx1) ?_
  try simp only [ij_dn R, ij_r0 R, ij_d0 R, ij_e0 R, ij_l0 R, ij_A0, ij_stA0, ij_r12 R, ij_d12 R, ij_e12 R, ij_l12 R, ij_A12, ij_stA12, ij_r13 R, ij_d13 R, ij_e13 R, ij_l13 R, ij_A13, ij_stA13, ij_r14 R, ij_d14 R, ij_e14 R, ij_l14 R, ij_A14, ij_stA14, ij_r15 R, ij_d15 R, ij_e15 R, ij_l15 R, ij_A15, ij_stA15, ij_I17, ij_stI17, ij_I22, ij_stI22, ij_I23, ij_stI23, ij_I24, ij_stI24, bnd]
  obtain ⟨x27, hxx27, h⟩ := bind_ok h
  refine bind_to (eLGX11_draws_116 R FU _ _ _ hxx27) ?_
  try simp only [ij_dn R, ij_r0 R, ij_d0 R, ij_e0 R, ij_l0 R, ij_A0, ij_stA0, ij_r12 R, ij_d12 R, ij_e12 R, ij_l12 R, ij_A12, ij_stA12, ij_r13 R, ij_d13 R, ij_e13 R, ij_l13 R, ij_A13, ij_stA13, ij_r14 R, ij_d14 R, ij_e14 R, ij_l14 R, ij_A14, ij_stA14, ij_r15 R, ij_d15 R, ij_e15 R, ij_l15 R, ij_A15, ij_stA15, ij_I17, ij_stI17, ij_I22, ij_stI22, ij_I23, ij_stI23, ij_I24, ij_stI24, bnd]
  obtain rfl := Option.some.inj h
  rfl
set_option maxRecDepth 100000 in
set_option maxHeartbeats 4000000 in
theorem e_X11_pages {σ : St} {t : Nat} {M : MS}  {ρ : Int32} (R : MR σ t) (h : g_X11_pages M  = some ρ) : f_X11_pages (ij σ t M) t  = some ((fun r => r) ρ) := by
  unfold g_X11_pages at h
  unfold f_X11_pages
  try simp only [ij_dn R, ij_r10 R, ij_d10 R, ij_e10 R, ij_l10 R, ij_A10, ij_stA10, ij_I17, ij_stI17, bnd]
  refine if_to h (fun c1 h => ?_) (fun c1 h => ?_)
  · obtain ⟨j2, g3, h⟩ := bind_ok h
    refine bind_to g3 ?_
    obtain rfl := Option.some.inj h
    rfl
  · obtain rfl := Option.some.inj h
    rfl
set_option maxRecDepth 100000 in
set_option maxHeartbeats 4000000 in
theorem e_X11_letters {σ : St} {t : Nat} {M : MS} {p1 : Int32} {ρ : Int32} (R : MR σ t) (h : g_X11_letters M p1 = some ρ) : f_X11_letters (ij σ t M) t p1 = some ((fun r => r) ρ) := by
  unfold g_X11_letters at h
  unfold f_X11_letters
  try simp only [ij_dn R, bnd]
  obtain ⟨q1, g2, h⟩ := bind_ok h
  refine bind_to (e_X11_of R g2) ?_
  obtain ⟨q3, g4, h⟩ := bind_ok h
  refine bind_to (e_X11_of R g4) ?_
  obtain rfl := Option.some.inj h
  rfl
set_option maxRecDepth 100000 in
set_option maxHeartbeats 4000000 in
theorem e_X11_linePart {σ : St} {t : Nat} {M : MS} {p1 : Int32} {p2 : Int32} {ρ : Int32} (R : MR σ t) (h : g_X11_linePart M p1 p2 = some ρ) : f_X11_linePart (ij σ t M) t p1 p2 = some ((fun r => r) ρ) := by
  unfold g_X11_linePart at h
  unfold f_X11_linePart
  try simp only [ij_dn R, ij_r12 R, ij_d12 R, ij_e12 R, ij_l12 R, ij_A12, ij_stA12, ij_r13 R, ij_d13 R, ij_e13 R, ij_l13 R, ij_A13, ij_stA13, ij_r14 R, ij_d14 R, ij_e14 R, ij_l14 R, ij_A14, ij_stA14, bnd]
  refine if_to h (fun _ h => ?_) (fun _ h => ?_)
  · obtain ⟨q1, g2, h⟩ := bind_ok h
    refine bind_to (e_X11_letters R g2) ?_
    obtain rfl := Option.some.inj h
    rfl
  · skip
    refine if_to h (fun _ h => ?_) (fun _ h => ?_)
    · obtain ⟨q3, g4, h⟩ := bind_ok h
      refine bind_to (e_X11_of R g4) ?_
      obtain rfl := Option.some.inj h
      rfl
    · skip
      refine if_to h (fun _ h => ?_) (fun _ h => ?_)
      · obtain ⟨q5, g6, h⟩ := bind_ok h
        refine bind_to (e_X11_of R g6) ?_
        obtain rfl := Option.some.inj h
        rfl
      · skip
        refine if_to h (fun _ h => ?_) (fun _ h => ?_)
        · obtain ⟨q7, g8, h⟩ := bind_ok h
          refine bind_to (e_X11_of R g8) ?_
          obtain rfl := Option.some.inj h
          rfl
        · skip
          refine if_to h (fun _ h => ?_) (fun _ h => ?_)
          · obtain ⟨q9, g10, h⟩ := bind_ok h
            refine bind_to (e_X11_leans R g10) ?_
            refine if_to h (fun c11 h => ?_) (fun c11 h => ?_)
            · obtain rfl := Option.some.inj h
              rfl
            · obtain rfl := Option.some.inj h
              rfl
          · skip
            refine if_to h (fun _ h => ?_) (fun _ h => ?_)
            · obtain ⟨q12, g13, h⟩ := bind_ok h
              refine bind_to (e_X11_of R g13) ?_
              obtain rfl := Option.some.inj h
              rfl
            · skip
              refine if_to h (fun _ h => ?_) (fun _ h => ?_)
              · obtain ⟨q14, g15, h⟩ := bind_ok h
                refine bind_to (e_X11_numberOf R g15) ?_
                obtain rfl := Option.some.inj h
                rfl
              · skip
                refine if_to h (fun _ h => ?_) (fun _ h => ?_)
                · obtain ⟨j16, g17, h⟩ := bind_ok h
                  refine bind_to g17 ?_
                  obtain rfl := Option.some.inj h
                  rfl
                · skip
                  refine if_to h (fun _ h => ?_) (fun _ h => ?_)
                  · obtain ⟨j18, g19, h⟩ := bind_ok h
                    refine bind_to g19 ?_
                    obtain rfl := Option.some.inj h
                    rfl
                  · skip
                    obtain ⟨j20, g21, h⟩ := bind_ok h
                    refine bind_to g21 ?_
                    obtain rfl := Option.some.inj h
                    rfl
set_option maxRecDepth 100000 in
set_option maxHeartbeats 4000000 in
theorem e_X11_line {σ : St} {t : Nat} {M : MS} {p1 : Int32} {p2 : Int32} {ρ : Int32 × MS} (R : MR σ t) (h : g_X11_line M p1 p2 = some ρ) : f_X11_line (ij σ t M) t p1 p2 = some ((fun r => (r.1, ij σ t r.2)) ρ) := by
  unfold g_X11_line at h
  unfold f_X11_line
  try simp only [ij_dn R, bnd]
  obtain ⟨q1, g2, h⟩ := bind_ok h
  refine bind_to (e_X11_isLine R g2) ?_
  refine if_to h (fun c3 h => ?_) (fun c3 h => ?_)
  · obtain rfl := Option.some.inj h
    rfl
  · obtain ⟨q4, g5, h⟩ := bind_ok h
    refine bind_to (e_X11_in R g5) ?_
    refine if_to h (fun c6 h => ?_) (fun c6 h => ?_)
    · obtain ⟨q7, g8, h⟩ := bind_ok h
      refine bind_to (e_X11_draws R g8) ?_
      try simp only [ij_dn R, bnd]
      obtain ⟨q9, g10, h⟩ := bind_ok h
      refine bind_to (e_X11_linePart R g10) ?_
      obtain rfl := Option.some.inj h
      rfl
    · obtain rfl := Option.some.inj h
      rfl

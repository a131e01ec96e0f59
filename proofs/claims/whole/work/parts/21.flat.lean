set_option maxRecDepth 100000 in
set_option maxHeartbeats 400000 in
theorem e_X11_in {σ : St} {t : Nat} {M : MS} {p1 : Int32} {p2 : Int32} {p3 : Int32} {ρ : Int32} (R : MR σ t) (h : g_X11_in M p1 p2 p3 = some ρ) : f_X11_in (ij σ t M) p1 p2 p3 = some ((fun r => r) ρ) := by
  unfold g_X11_in at h
  unfold f_X11_in
  try simp only [ij_dn R, Option.bind_some]
  refine if_to h (fun c1 h => ?_) (fun c1 h => ?_)
  · obtain rfl := Option.some.inj h
    rfl
  · refine if_to h (fun c2 h => ?_) (fun c2 h => ?_)
    · obtain rfl := Option.some.inj h
      rfl
    · obtain rfl := Option.some.inj h
      rfl
set_option maxRecDepth 100000 in
set_option maxHeartbeats 400000 in
theorem e_X11_lesser {σ : St} {t : Nat} {M : MS} {p1 : Int32} {p2 : Int32} {ρ : Int32} (R : MR σ t) (h : g_X11_lesser M p1 p2 = some ρ) : f_X11_lesser (ij σ t M) p1 p2 = some ((fun r => r) ρ) := by
  unfold g_X11_lesser at h
  unfold f_X11_lesser
  try simp only [ij_dn R, Option.bind_some]
  refine if_to h (fun c1 h => ?_) (fun c1 h => ?_)
  · obtain rfl := Option.some.inj h
    rfl
  · obtain rfl := Option.some.inj h
    rfl
set_option maxRecDepth 100000 in
set_option maxHeartbeats 400000 in
theorem eLGX11_keeps_11 {σ : St} {t : Nat}  (R : MR σ t) : ∀ (n : Nat) (v1 : Int32) (μ : MS) y, LGX11_keeps_11 n v1 μ = some y → LX11_keeps_11 n t v1 (ij σ t μ) = some ((fun w => ij σ t w) y) := by
  intro n
  induction n with
  | zero => intro _ _ _ h; cases (show (none : Option _) = some _ from h)
  | succ n ihx3 =>
    intro v1 μ yx3 h
    rw [LGX11_keeps_11] at h
    rw [LX11_keeps_11]
    try simp only [ij_dn R, ij_r0 R, ij_d0 R, ij_e0 R, ij_l0 R, ij_A0, ij_stA0, ij_r1 R, ij_d1 R, ij_e1 R, ij_l1 R, ij_A1, ij_stA1, ij_I2, ij_stI2, Option.bind_some]
    refine if_to h (fun c4 h => ?_) (fun c4 h => ?_)
    · obtain rfl := Option.some.inj h
      rfl
    · obtain ⟨j5, g6, h⟩ := bind_ok h
      refine bind_to g6 ?_
      obtain ⟨j7, g8, h⟩ := bind_ok h
      refine bind_to g8 ?_
      exact ihx3 _ _ _ h
set_option maxRecDepth 100000 in
set_option maxHeartbeats 400000 in
theorem eLGX11_keeps_52 {σ : St} {t : Nat}  (R : MR σ t) : ∀ (n : Nat) (v1 : Int32) (μ : MS) y, LGX11_keeps_52 n v1 μ = some y → LX11_keeps_52 n t v1 (ij σ t μ) = some ((fun w => ij σ t w) y) := by
  intro n
  induction n with
  | zero => intro _ _ _ h; cases (show (none : Option _) = some _ from h)
  | succ n ihx9 =>
    intro v1 μ yx9 h
    rw [LGX11_keeps_52] at h
    rw [LX11_keeps_52]
    try simp only [ij_dn R, ij_r0 R, ij_d0 R, ij_e0 R, ij_l0 R, ij_A0, ij_stA0, ij_r1 R, ij_d1 R, ij_e1 R, ij_l1 R, ij_A1, ij_stA1, ij_I2, ij_stI2, Option.bind_some]
    refine if_to h (fun c10 h => ?_) (fun c10 h => ?_)
    · obtain rfl := Option.some.inj h
      rfl
    · obtain ⟨j11, g12, h⟩ := bind_ok h
      refine bind_to g12 ?_
      obtain ⟨j13, g14, h⟩ := bind_ok h
      refine bind_to g14 ?_
      exact ihx9 _ _ _ h
set_option maxRecDepth 100000 in
set_option maxHeartbeats 400000 in
theorem e_X11_keeps {σ : St} {t : Nat} {M : MS}  {ρ : MS} (R : MR σ t) (h : g_X11_keeps M  = some ρ) : f_X11_keeps (ij σ t M) t  = some ((fun r => ij σ t r) ρ) := by
  unfold g_X11_keeps at h
  unfold f_X11_keeps
  try simp only [ij_dn R, ij_r0 R, ij_d0 R, ij_e0 R, ij_l0 R, ij_A0, ij_stA0, ij_r1 R, ij_d1 R, ij_e1 R, ij_l1 R, ij_A1, ij_stA1, ij_I2, ij_stI2, Option.bind_some]
  obtain ⟨x1, hxx1, h⟩ := bind_ok h
  refine bind_to (a := (fun (w : MS) => ij σ t w) x1) ?_ ?_
  · have h := hxx1
    refine if_to h (fun c2 h => ?_) (fun c2 h => ?_)
    · obtain rfl := Option.some.inj h
      rfl
    · obtain ⟨x3, hxx3, h⟩ := bind_ok h
      refine bind_to (eLGX11_keeps_11 R FU _ _ _ hxx3) ?_
      try simp only [ij_dn R, ij_r0 R, ij_d0 R, ij_e0 R, ij_l0 R, ij_A0, ij_stA0, ij_r1 R, ij_d1 R, ij_e1 R, ij_l1 R, ij_A1, ij_stA1, ij_I2, ij_stI2, Option.bind_some]
      obtain rfl := Option.some.inj h
      rfl
  · try simp only [ij_dn R, ij_r0 R, ij_d0 R, ij_e0 R, ij_l0 R, ij_A0, ij_stA0, ij_r1 R, ij_d1 R, ij_e1 R, ij_l1 R, ij_A1, ij_stA1, ij_I2, ij_stI2, Option.bind_some]
    obtain ⟨x9, hxx9, h⟩ := bind_ok h
    refine bind_to (eLGX11_keeps_52 R FU _ _ _ hxx9) ?_
    try simp only [ij_dn R, ij_r0 R, ij_d0 R, ij_e0 R, ij_l0 R, ij_A0, ij_stA0, ij_r1 R, ij_d1 R, ij_e1 R, ij_l1 R, ij_A1, ij_stA1, ij_I2, ij_stI2, Option.bind_some]
    obtain rfl := Option.some.inj h
    rfl
set_option maxRecDepth 100000 in
set_option maxHeartbeats 400000 in
theorem eLGX11_undo_22 {σ : St} {t : Nat}  (R : MR σ t) : ∀ (n : Nat) (v1 : Int32) (μ : MS) y, LGX11_undo_22 n v1 μ = some y → LX11_undo_22 n t v1 (ij σ t μ) = some ((fun w => ij σ t w) y) := by
  intro n
  induction n with
  | zero => intro _ _ _ h; cases (show (none : Option _) = some _ from h)
  | succ n ihx2 =>
    intro v1 μ yx2 h
    rw [LGX11_undo_22] at h
    rw [LX11_undo_22]
    try simp only [ij_dn R, ij_r0 R, ij_d0 R, ij_e0 R, ij_l0 R, ij_A0, ij_stA0, ij_r1 R, ij_d1 R, ij_e1 R, ij_l1 R, ij_A1, ij_stA1, ij_I2, ij_stI2, Option.bind_some]
    refine if_to h (fun c3 h => ?_) (fun c3 h => ?_)
    · obtain rfl := Option.some.inj h
      rfl
    · obtain ⟨j4, g5, h⟩ := bind_ok h
      refine bind_to g5 ?_
      obtain ⟨j6, g7, h⟩ := bind_ok h
      refine bind_to g7 ?_
      exact ihx2 _ _ _ h
set_option maxRecDepth 100000 in
set_option maxHeartbeats 400000 in
theorem e_X11_undo {σ : St} {t : Nat} {M : MS}  {ρ : Int32 × MS} (R : MR σ t) (h : g_X11_undo M  = some ρ) : f_X11_undo (ij σ t M) t  = some ((fun r => (r.1, ij σ t r.2)) ρ) := by
  unfold g_X11_undo at h
  unfold f_X11_undo
  try simp only [ij_dn R, ij_r0 R, ij_d0 R, ij_e0 R, ij_l0 R, ij_A0, ij_stA0, ij_r1 R, ij_d1 R, ij_e1 R, ij_l1 R, ij_A1, ij_stA1, ij_I2, ij_stI2, Option.bind_some]
  refine if_to h (fun c1 h => ?_) (fun c1 h => ?_)
  · obtain ⟨x2, hxx2, h⟩ := bind_ok h
    refine bind_to (eLGX11_undo_22 R FU _ _ _ hxx2) ?_
    try simp only [ij_dn R, ij_r0 R, ij_d0 R, ij_e0 R, ij_l0 R, ij_A0, ij_stA0, ij_r1 R, ij_d1 R, ij_e1 R, ij_l1 R, ij_A1, ij_stA1, ij_I2, ij_stI2, Option.bind_some]
    obtain rfl := Option.some.inj h
    rfl
  · obtain rfl := Option.some.inj h
    rfl
set_option maxRecDepth 100000 in
set_option maxHeartbeats 400000 in
theorem e_X11_type {σ : St} {t : Nat} {M : MS} {p1 : Int32} {ρ : Int32 × MS} (R : MR σ t) (h : g_X11_type M p1 = some ρ) : f_X11_type (ij σ t M) t p1 = some ((fun r => (r.1, ij σ t r.2)) ρ) := by
  unfold g_X11_type at h
  unfold f_X11_type
  try simp only [ij_dn R, ij_r2 R, ij_d2 R, ij_e2 R, ij_l2 R, ij_A2, ij_stA2, ij_I4, ij_stI4, Option.bind_some]
  obtain ⟨q1, g2, h⟩ := bind_ok h
  refine bind_to (e_X11_in R g2) ?_
  refine if_to h (fun c3 h => ?_) (fun c3 h => ?_)
  · refine if_to h (fun c4 h => ?_) (fun c4 h => ?_)
    · obtain ⟨j5, g6, h⟩ := bind_ok h
      refine bind_to g6 ?_
      obtain rfl := Option.some.inj h
      rfl
    · obtain rfl := Option.some.inj h
      rfl
  · obtain rfl := Option.some.inj h
    rfl
set_option maxRecDepth 100000 in
set_option maxHeartbeats 400000 in
theorem e_X11_clear {σ : St} {t : Nat} {M : MS}  {ρ : Int32 × MS} (R : MR σ t) (h : g_X11_clear M  = some ρ) : f_X11_clear (ij σ t M) t  = some ((fun r => (r.1, ij σ t r.2)) ρ) := by
  unfold g_X11_clear at h
  unfold f_X11_clear
  try simp only [ij_dn R, ij_I4, ij_stI4, Option.bind_some]
  obtain rfl := Option.some.inj h
  rfl
set_option maxRecDepth 100000 in
set_option maxHeartbeats 400000 in
theorem e_X11_next {σ : St} {t : Nat} {M : MS}  {ρ : Int32} (R : MR σ t) (h : g_X11_next M  = some ρ) : f_X11_next (ij σ t M) t  = some ((fun r => r) ρ) := by
  unfold g_X11_next at h
  unfold f_X11_next
  try simp only [ij_dn R, ij_r2 R, ij_d2 R, ij_e2 R, ij_l2 R, ij_A2, ij_stA2, ij_I4, ij_stI4, ij_I5, ij_stI5, Option.bind_some]
  refine if_to h (fun c1 h => ?_) (fun c1 h => ?_)
  · obtain rfl := Option.some.inj h
    rfl
  · obtain ⟨j2, g3, h⟩ := bind_ok h
    refine bind_to g3 ?_
    obtain rfl := Option.some.inj h
    rfl
set_option maxRecDepth 100000 in
set_option maxHeartbeats 400000 in
theorem e_X11_isLetter {σ : St} {t : Nat} {M : MS}  {ρ : Int32} (R : MR σ t) (h : g_X11_isLetter M  = some ρ) : f_X11_isLetter (ij σ t M) t  = some ((fun r => r) ρ) := by
  unfold g_X11_isLetter at h
  unfold f_X11_isLetter
  try simp only [ij_dn R, Option.bind_some]
  obtain ⟨q1, g2, h⟩ := bind_ok h
  refine bind_to (e_X11_next R g2) ?_
  obtain ⟨q3, g4, h⟩ := bind_ok h
  refine bind_to (e_X11_in R g4) ?_
  obtain ⟨z5, g6, h⟩ := bind_ok h
  refine bind_to g6 ?_
  obtain rfl := Option.some.inj h
  rfl
set_option maxRecDepth 100000 in
set_option maxHeartbeats 400000 in
theorem eLGX11_skips_0 {σ : St} {t : Nat}  (R : MR σ t) : ∀ (n : Nat) (μ : MS) y, LGX11_skips_0 n μ = some y → LX11_skips_0 n t (ij σ t μ) = some ((fun w => ij σ t w) y) := by
  intro n
  induction n with
  | zero => intro _ _ h; cases (show (none : Option _) = some _ from h)
  | succ n ihx1 =>
    intro μ yx1 h
    rw [LGX11_skips_0] at h
    rw [LX11_skips_0]
    try simp only [ij_dn R, ij_I5, ij_stI5, Option.bind_some]
    obtain ⟨q2, g3, h⟩ := bind_ok h
    refine bind_to (e_X11_next R g3) ?_
    refine if_to h (fun c4 h => ?_) (fun c4 h => ?_)
    · obtain rfl := Option.some.inj h
      rfl
    · exact ihx1 _ _ h
set_option maxRecDepth 100000 in
set_option maxHeartbeats 400000 in
theorem e_X11_skips {σ : St} {t : Nat} {M : MS}  {ρ : MS} (R : MR σ t) (h : g_X11_skips M  = some ρ) : f_X11_skips (ij σ t M) t  = some ((fun r => ij σ t r) ρ) := by
  unfold g_X11_skips at h
  unfold f_X11_skips
  try simp only [ij_dn R, ij_I5, ij_stI5, Option.bind_some]
  obtain ⟨x1, hxx1, h⟩ := bind_ok h
  refine bind_to (eLGX11_skips_0 R FU _ _ hxx1) ?_
  try simp only [ij_dn R, ij_I5, ij_stI5, Option.bind_some]
  obtain rfl := Option.some.inj h
  rfl
set_option maxRecDepth 100000 in
set_option maxHeartbeats 400000 in
theorem e_X11_takes {σ : St} {t : Nat} {M : MS} {p1 : Int32} {ρ : Int32 × MS} (R : MR σ t) (h : g_X11_takes M p1 = some ρ) : f_X11_takes (ij σ t M) t p1 = some ((fun r => (r.1, ij σ t r.2)) ρ) := by
  unfold g_X11_takes at h
  unfold f_X11_takes
  try simp only [ij_dn R, ij_I5, ij_stI5, Option.bind_some]
  obtain ⟨q1, g2, h⟩ := bind_ok h
  refine bind_to (e_X11_next R g2) ?_
  obtain ⟨x3, hxx3, h⟩ := bind_ok h
  refine bind_to (a := (fun (w : Int32) => w) x3) ?_ ?_
  · have h := hxx3
    refine if_to h (fun c4 h => ?_) (fun c4 h => ?_)
    · obtain rfl := Option.some.inj h
      rfl
    · obtain rfl := Option.some.inj h
      rfl
  · try simp only [ij_dn R, ij_I5, ij_stI5, Option.bind_some]
    refine if_to h (fun c5 h => ?_) (fun c5 h => ?_)
    · obtain ⟨z6, g7, h⟩ := bind_ok h
      refine bind_to g7 ?_
      obtain rfl := Option.some.inj h
      rfl
    · obtain ⟨q8, g9, h⟩ := bind_ok h
      refine bind_to (e_X11_skips R g9) ?_
      try simp only [ij_dn R, ij_I5, ij_stI5, Option.bind_some]
      obtain ⟨z10, g11, h⟩ := bind_ok h
      refine bind_to g11 ?_
      obtain rfl := Option.some.inj h
      rfl
set_option maxRecDepth 100000 in
set_option maxHeartbeats 400000 in
theorem eLGX11_readsWord_36 {σ : St} {t : Nat}  (R : MR σ t) : ∀ (n : Nat) (v1 : Int32) (μ : MS) y, LGX11_readsWord_36 n v1 μ = some y → LX11_readsWord_36 n t v1 (ij σ t μ) = some ((fun w => ij σ t w) y) := by
  intro n
  induction n with
  | zero => intro _ _ _ h; cases (show (none : Option _) = some _ from h)
  | succ n ihx13 =>
    intro v1 μ yx13 h
    rw [LGX11_readsWord_36] at h
    rw [LX11_readsWord_36]
    try simp only [ij_dn R, ij_r3 R, ij_d3 R, ij_e3 R, ij_l3 R, ij_A3, ij_stA3, ij_I5, ij_stI5, ij_I6, ij_stI6, Option.bind_some]
    obtain ⟨q14, g15, h⟩ := bind_ok h
    refine bind_to (e_X11_isLetter R g15) ?_
    refine if_to h (fun c16 h => ?_) (fun c16 h => ?_)
    · obtain rfl := Option.some.inj h
      rfl
    · refine if_to h (fun c17 h => ?_) (fun c17 h => ?_)
      · obtain rfl := Option.some.inj h
        rfl
      · obtain ⟨j18, g19, h⟩ := bind_ok h
        refine bind_to g19 ?_
        obtain ⟨q20, g21, h⟩ := bind_ok h
        refine bind_to (e_X11_next R g21) ?_
        obtain ⟨j22, g23, h⟩ := bind_ok h
        refine bind_to g23 ?_
        obtain ⟨j24, g25, h⟩ := bind_ok h
        refine bind_to g25 ?_
        obtain ⟨j26, g27, h⟩ := bind_ok h
        refine bind_to g27 ?_
        exact ihx13 _ _ _ h
set_option maxRecDepth 100000 in
set_option maxHeartbeats 400000 in
theorem e_X11_readsWord {σ : St} {t : Nat} {M : MS}  {ρ : MS} (R : MR σ t) (h : g_X11_readsWord M  = some ρ) : f_X11_readsWord (ij σ t M) t  = some ((fun r => ij σ t r) ρ) := by
  unfold g_X11_readsWord at h
  unfold f_X11_readsWord
  try simp only [ij_dn R, ij_r3 R, ij_d3 R, ij_e3 R, ij_l3 R, ij_A3, ij_stA3, ij_I5, ij_stI5, ij_I6, ij_stI6, Option.bind_some]
  obtain ⟨j1, g2, h⟩ := bind_ok h
  refine bind_to g2 ?_
  obtain ⟨x3, hxx3, h⟩ := bind_ok h
  refine bind_to (a := (fun (w : MS) => ij σ t w) x3) ?_ ?_
  · have h := hxx3
    refine if_to h (fun c4 h => ?_) (fun c4 h => ?_)
    · obtain rfl := Option.some.inj h
      rfl
    · obtain ⟨j5, g6, h⟩ := bind_ok h
      refine bind_to g6 ?_
      obtain ⟨j7, g8, h⟩ := bind_ok h
      refine bind_to g8 ?_
      obtain ⟨j9, g10, h⟩ := bind_ok h
      refine bind_to g10 ?_
      obtain ⟨j11, g12, h⟩ := bind_ok h
      refine bind_to g12 ?_
      obtain rfl := Option.some.inj h
      rfl
  · try simp only [ij_dn R, ij_r3 R, ij_d3 R, ij_e3 R, ij_l3 R, ij_A3, ij_stA3, ij_I5, ij_stI5, ij_I6, ij_stI6, Option.bind_some]
    obtain ⟨x13, hxx13, h⟩ := bind_ok h
    refine bind_to (eLGX11_readsWord_36 R FU _ _ _ hxx13) ?_
    try simp only [ij_dn R, ij_r3 R, ij_d3 R, ij_e3 R, ij_l3 R, ij_A3, ij_stA3, ij_I5, ij_stI5, ij_I6, ij_stI6, Option.bind_some]
    obtain ⟨j28, g29, h⟩ := bind_ok h
    refine bind_to g29 ?_
    obtain ⟨j30, g31, h⟩ := bind_ok h
    refine bind_to g31 ?_
    obtain ⟨q32, g33, h⟩ := bind_ok h
    refine bind_to (e_X11_isLetter R g33) ?_
    obtain ⟨x34, hxx34, h⟩ := bind_ok h
    refine bind_to (a := (fun (w : Int32) => w) x34) ?_ ?_
    · have h := hxx34
      refine if_to h (fun c35 h => ?_) (fun c35 h => ?_)
      · obtain rfl := Option.some.inj h
        rfl
      · obtain rfl := Option.some.inj h
        rfl
    · try simp only [ij_dn R, ij_r3 R, ij_d3 R, ij_e3 R, ij_l3 R, ij_A3, ij_stA3, ij_I5, ij_stI5, ij_I6, ij_stI6, Option.bind_some]
      obtain ⟨q36, g37, h⟩ := bind_ok h
      refine bind_to (e_X11_skips R g37) ?_
      try simp only [ij_dn R, ij_r3 R, ij_d3 R, ij_e3 R, ij_l3 R, ij_A3, ij_stA3, ij_I5, ij_stI5, ij_I6, ij_stI6, Option.bind_some]
      obtain rfl := Option.some.inj h
      rfl
set_option maxRecDepth 100000 in
set_option maxHeartbeats 400000 in
theorem eLGX11_readsLine_87 {σ : St} {t : Nat}  (R : MR σ t) : ∀ (n : Nat) (μ : MS) y, LGX11_readsLine_87 n μ = some y → LX11_readsLine_87 n t (ij σ t μ) = some ((fun w => ij σ t w) y) := by
  intro n
  induction n with
  | zero => intro _ _ h; cases (show (none : Option _) = some _ from h)
  | succ n ihx24 =>
    intro μ yx24 h
    rw [LGX11_readsLine_87] at h
    rw [LX11_readsLine_87]
    try simp only [ij_dn R, ij_r3 R, ij_d3 R, ij_e3 R, ij_l3 R, ij_A3, ij_stA3, ij_I4, ij_stI4, ij_I5, ij_stI5, ij_I6, ij_stI6, Option.bind_some]
    obtain ⟨q25, g26, h⟩ := bind_ok h
    refine bind_to (e_X11_isLetter R g26) ?_
    refine if_to h (fun c27 h => ?_) (fun c27 h => ?_)
    · obtain rfl := Option.some.inj h
      rfl
    · refine if_to h (fun c28 h => ?_) (fun c28 h => ?_)
      · obtain rfl := Option.some.inj h
        rfl
      · obtain ⟨q29, g30, h⟩ := bind_ok h
        refine bind_to (e_X11_readsWord R g30) ?_
        try simp only [ij_dn R, ij_r3 R, ij_d3 R, ij_e3 R, ij_l3 R, ij_A3, ij_stA3, ij_I4, ij_stI4, ij_I5, ij_stI5, ij_I6, ij_stI6, Option.bind_some]
        exact ihx24 _ _ h
set_option maxRecDepth 100000 in
set_option maxHeartbeats 400000 in
theorem eLGX11_readsLine_55 {σ : St} {t : Nat}  (R : MR σ t) : ∀ (n : Nat) (μ : MS) y, LGX11_readsLine_55 n μ = some y → LX11_readsLine_55 n t (ij σ t μ) = some ((fun w => ij σ t w) y) := by
  intro n
  induction n with
  | zero => intro _ _ h; cases (show (none : Option _) = some _ from h)
  | succ n ihx13 =>
    intro μ yx13 h
    rw [LGX11_readsLine_55] at h
    rw [LX11_readsLine_55]
    try simp only [ij_dn R, ij_r3 R, ij_d3 R, ij_e3 R, ij_l3 R, ij_A3, ij_stA3, ij_I4, ij_stI4, ij_I5, ij_stI5, ij_I6, ij_stI6, Option.bind_some]
    obtain ⟨j14, g15, h⟩ := bind_ok h
    refine bind_to g15 ?_
    refine if_to h (fun c16 h => ?_) (fun c16 h => ?_)
    · obtain rfl := Option.some.inj h
      rfl
    · obtain ⟨q17, g18, h⟩ := bind_ok h
      refine bind_to (e_X11_takes R g18) ?_
      try simp only [ij_dn R, ij_r3 R, ij_d3 R, ij_e3 R, ij_l3 R, ij_A3, ij_stA3, ij_I4, ij_stI4, ij_I5, ij_stI5, ij_I6, ij_stI6, Option.bind_some]
      refine if_to h (fun c19 h => ?_) (fun c19 h => ?_)
      · obtain rfl := Option.some.inj h
        rfl
      · obtain ⟨j20, g21, h⟩ := bind_ok h
        refine bind_to g21 ?_
        obtain ⟨j22, g23, h⟩ := bind_ok h
        refine bind_to g23 ?_
        exact ihx13 _ _ h
set_option maxRecDepth 100000 in
set_option maxHeartbeats 400000 in
theorem eLGX11_readsLine_16 {σ : St} {t : Nat}  (R : MR σ t) : ∀ (n : Nat) (v1 : Int32) (μ : MS) y, LGX11_readsLine_16 n v1 μ = some y → LX11_readsLine_16 n t v1 (ij σ t μ) = some ((fun w => ij σ t w) y) := by
  intro n
  induction n with
  | zero => intro _ _ _ h; cases (show (none : Option _) = some _ from h)
  | succ n ihx3 =>
    intro v1 μ yx3 h
    rw [LGX11_readsLine_16] at h
    rw [LX11_readsLine_16]
    try simp only [ij_dn R, ij_r3 R, ij_d3 R, ij_e3 R, ij_l3 R, ij_A3, ij_stA3, ij_I4, ij_stI4, ij_I5, ij_stI5, ij_I6, ij_stI6, Option.bind_some]
    refine if_to h (fun c4 h => ?_) (fun c4 h => ?_)
    · obtain rfl := Option.some.inj h
      rfl
    · obtain ⟨j5, g6, h⟩ := bind_ok h
      refine bind_to g6 ?_
      exact ihx3 _ _ _ h
set_option maxRecDepth 100000 in
set_option maxHeartbeats 400000 in
theorem e_X11_readsLine {σ : St} {t : Nat} {M : MS}  {ρ : MS} (R : MR σ t) (h : g_X11_readsLine M  = some ρ) : f_X11_readsLine (ij σ t M) t  = some ((fun r => ij σ t r) ρ) := by
  unfold g_X11_readsLine at h
  unfold f_X11_readsLine
  try simp only [ij_dn R, ij_r3 R, ij_d3 R, ij_e3 R, ij_l3 R, ij_A3, ij_stA3, ij_I4, ij_stI4, ij_I5, ij_stI5, ij_I6, ij_stI6, Option.bind_some]
  obtain ⟨q1, g2, h⟩ := bind_ok h
  refine bind_to (e_X11_skips R g2) ?_
  try simp only [ij_dn R, ij_r3 R, ij_d3 R, ij_e3 R, ij_l3 R, ij_A3, ij_stA3, ij_I4, ij_stI4, ij_I5, ij_stI5, ij_I6, ij_stI6, Option.bind_some]
  obtain ⟨x3, hxx3, h⟩ := bind_ok h
  refine bind_to (eLGX11_readsLine_16 R FU _ _ _ hxx3) ?_
  try simp only [ij_dn R, ij_r3 R, ij_d3 R, ij_e3 R, ij_l3 R, ij_A3, ij_stA3, ij_I4, ij_stI4, ij_I5, ij_stI5, ij_I6, ij_stI6, Option.bind_some]
  obtain ⟨q7, g8, h⟩ := bind_ok h
  refine bind_to (e_X11_takes R g8) ?_
  try simp only [ij_dn R, ij_r3 R, ij_d3 R, ij_e3 R, ij_l3 R, ij_A3, ij_stA3, ij_I4, ij_stI4, ij_I5, ij_stI5, ij_I6, ij_stI6, Option.bind_some]
  obtain ⟨x9, hxx9, h⟩ := bind_ok h
  refine bind_to (a := (fun (w : Int32) => w) x9) ?_ ?_
  · have h := hxx9
    refine if_to h (fun c10 h => ?_) (fun c10 h => ?_)
    · obtain rfl := Option.some.inj h
      rfl
    · obtain rfl := Option.some.inj h
      rfl
  · try simp only [ij_dn R, ij_r3 R, ij_d3 R, ij_e3 R, ij_l3 R, ij_A3, ij_stA3, ij_I4, ij_stI4, ij_I5, ij_stI5, ij_I6, ij_stI6, Option.bind_some]
    obtain ⟨j11, g12, h⟩ := bind_ok h
    refine bind_to g12 ?_
    obtain ⟨x13, hxx13, h⟩ := bind_ok h
    refine bind_to (eLGX11_readsLine_55 R FU _ _ hxx13) ?_
    try simp only [ij_dn R, ij_r3 R, ij_d3 R, ij_e3 R, ij_l3 R, ij_A3, ij_stA3, ij_I4, ij_stI4, ij_I5, ij_stI5, ij_I6, ij_stI6, Option.bind_some]
    obtain ⟨x24, hxx24, h⟩ := bind_ok h
    refine bind_to (eLGX11_readsLine_87 R FU _ _ hxx24) ?_
    try simp only [ij_dn R, ij_r3 R, ij_d3 R, ij_e3 R, ij_l3 R, ij_A3, ij_stA3, ij_I4, ij_stI4, ij_I5, ij_stI5, ij_I6, ij_stI6, Option.bind_some]
    obtain ⟨x31, hxx31, h⟩ := bind_ok h
    refine bind_to (a := (fun (w : MS) => ij σ t w) x31) ?_ ?_
    · have h := hxx31
      refine if_to h (fun c32 h => ?_) (fun c32 h => ?_)
      · obtain rfl := Option.some.inj h
        rfl
      · obtain ⟨j33, g34, h⟩ := bind_ok h
        refine bind_to g34 ?_
        refine if_to h (fun c35 h => ?_) (fun c35 h => ?_)
        · obtain rfl := Option.some.inj h
          rfl
        · obtain ⟨q36, g37, h⟩ := bind_ok h
          refine bind_to (e_X11_takes R g37) ?_
          try simp only [ij_dn R, ij_r3 R, ij_d3 R, ij_e3 R, ij_l3 R, ij_A3, ij_stA3, ij_I4, ij_stI4, ij_I5, ij_stI5, ij_I6, ij_stI6, Option.bind_some]
          obtain ⟨x38, hxx38, h⟩ := bind_ok h
          refine bind_to (a := (fun (w : Int32) => w) x38) ?_ ?_
          · have h := hxx38
            refine if_to h (fun c39 h => ?_) (fun c39 h => ?_)
            · obtain rfl := Option.some.inj h
              rfl
            · obtain rfl := Option.some.inj h
              rfl
          · try simp only [ij_dn R, ij_r3 R, ij_d3 R, ij_e3 R, ij_l3 R, ij_A3, ij_stA3, ij_I4, ij_stI4, ij_I5, ij_stI5, ij_I6, ij_stI6, Option.bind_some]
            obtain ⟨j40, g41, h⟩ := bind_ok h
            refine bind_to g41 ?_
            obtain rfl := Option.some.inj h
            rfl
    · try simp only [ij_dn R, ij_r3 R, ij_d3 R, ij_e3 R, ij_l3 R, ij_A3, ij_stA3, ij_I4, ij_stI4, ij_I5, ij_stI5, ij_I6, ij_stI6, Option.bind_some]
      refine if_to h (fun c42 h => ?_) (fun c42 h => ?_)
      · obtain rfl := Option.some.inj h
        rfl
      · obtain ⟨j43, g44, h⟩ := bind_ok h
        refine bind_to g44 ?_
        obtain ⟨x45, hxx45, Hx45⟩ := sb_ok h
        refine sb_to (x := Sum.map (fun r => ij σ t r) (fun w => ()) x45) ?_ ?_
        · have h := hxx45
          refine if_to h (fun c46 h => ?_) (fun c46 h => ?_)
          · obtain rfl := Option.some.inj h
            rfl
          · refine if_to h (fun c47 h => ?_) (fun c47 h => ?_)
            · obtain rfl := Option.some.inj h
              rfl
            · obtain rfl := Option.some.inj h
              rfl
        · rcases Hx45 with rfl | ⟨wx45, rfl, h⟩
          · exact Or.inl rfl
          · refine Or.inr ⟨_, rfl, ?_⟩
            try simp only [ij_dn R, ij_r3 R, ij_d3 R, ij_e3 R, ij_l3 R, ij_A3, ij_stA3, ij_I4, ij_stI4, ij_I5, ij_stI5, ij_I6, ij_stI6, Option.bind_some]
            obtain rfl := Option.some.inj h
            rfl
set_option maxRecDepth 100000 in
set_option maxHeartbeats 400000 in
theorem eLGX11_isName_21 {σ : St} {t : Nat} {μ : MS} {l1 : Int32} {l2 : Int64} {l4 : Int32} (R : MR σ t) : ∀ (n : Nat) (v5 : Int32) (v6 : Int32) y, LGX11_isName_21 n μ l1 l2 l4 v5 v6 = some y → LX11_isName_21 n (ij σ t μ) t l1 l2 l4 v5 v6 = some ((fun w => w) y) := by
  intro n
  induction n with
  | zero => intro _ _ _ h; cases (show (none : Option _) = some _ from h)
  | succ n ihx3 =>
    intro v5 v6 yx3 h
    rw [LGX11_isName_21] at h
    rw [LX11_isName_21]
    try simp only [ij_dn R, ij_r2 R, ij_d2 R, ij_e2 R, ij_l2 R, ij_A2, ij_stA2, ij_I5, ij_stI5, Option.bind_some]
    refine if_to h (fun c4 h => ?_) (fun c4 h => ?_)
    · obtain rfl := Option.some.inj h
      rfl
    · refine if_to h (fun c5 h => ?_) (fun c5 h => ?_)
      · obtain rfl := Option.some.inj h
        rfl
      · obtain ⟨j6, g7, h⟩ := bind_ok h
        refine bind_to g7 ?_
        obtain ⟨x8, hxx8, h⟩ := bind_ok h
        refine bind_to (a := (fun (w : Int32) => w) x8) ?_ ?_
        · have h := hxx8
          refine if_to h (fun c9 h => ?_) (fun c9 h => ?_)
          · obtain rfl := Option.some.inj h
            rfl
          · obtain rfl := Option.some.inj h
            rfl
        · try simp only [ij_dn R, ij_r2 R, ij_d2 R, ij_e2 R, ij_l2 R, ij_A2, ij_stA2, ij_I5, ij_stI5, Option.bind_some]
          exact ihx3 _ _ _ h
set_option maxRecDepth 100000 in
set_option maxHeartbeats 400000 in
theorem e_X11_isName {σ : St} {t : Nat} {M : MS} {p1 : Int32} {p2 : Int64} {p3 : Int32} {ρ : Int32} (R : MR σ t) (h : g_X11_isName M p1 p2 p3 = some ρ) : f_X11_isName (ij σ t M) t p1 p2 p3 = some ((fun r => r) ρ) := by
  unfold g_X11_isName at h
  unfold f_X11_isName
  try simp only [ij_dn R, ij_r2 R, ij_d2 R, ij_e2 R, ij_l2 R, ij_A2, ij_stA2, ij_I5, ij_stI5, Option.bind_some]
  obtain ⟨x1, hxx1, h⟩ := bind_ok h
  refine bind_to (a := (fun (w : Int32) => w) x1) ?_ ?_
  · have h := hxx1
    refine if_to h (fun c2 h => ?_) (fun c2 h => ?_)
    · obtain rfl := Option.some.inj h
      rfl
    · obtain rfl := Option.some.inj h
      rfl
  · try simp only [ij_dn R, ij_r2 R, ij_d2 R, ij_e2 R, ij_l2 R, ij_A2, ij_stA2, ij_I5, ij_stI5, Option.bind_some]
    obtain ⟨x3, hxx3, h⟩ := bind_ok h
    refine bind_to (eLGX11_isName_21 R FU _ _ _ hxx3) ?_
    try simp only [ij_dn R, ij_r2 R, ij_d2 R, ij_e2 R, ij_l2 R, ij_A2, ij_stA2, ij_I5, ij_stI5, Option.bind_some]
    obtain ⟨z10, g11, h⟩ := bind_ok h
    refine bind_to g11 ?_
    obtain rfl := Option.some.inj h
    rfl

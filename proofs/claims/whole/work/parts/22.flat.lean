set_option maxRecDepth 100000 in
set_option maxHeartbeats 4000000 in
theorem e_X11_letter {σ : St} {t : Nat} {M : MS} {p1 : Int32} {p2 : Int32} {ρ : Int32} (R : MR σ t) (h : g_X11_letter M p1 p2 = some ρ) : f_X11_letter (ij σ t M) t p1 p2 = some ((fun r => r) ρ) := by
  unfold g_X11_letter at h
  unfold f_X11_letter
  try simp only [ij_dn R, bnd]
  obtain ⟨q1, g2, h⟩ := bind_ok h
  refine bind_to (e_X11_isLine R g2) ?_
  refine if_to h (fun c3 h => ?_) (fun c3 h => ?_)
  · obtain rfl := Option.some.inj h
    rfl
  · refine if_to h (fun c4 h => ?_) (fun c4 h => ?_)
    · obtain ⟨q5, g6, h⟩ := bind_ok h
      refine bind_to (e_X11_of R g6) ?_
      refine if_to h (fun c7 h => ?_) (fun c7 h => ?_)
      · obtain rfl := Option.some.inj h
        rfl
      · obtain ⟨q8, g9, h⟩ := bind_ok h
        refine bind_to (e_X11_of R g9) ?_
        obtain rfl := Option.some.inj h
        rfl
    · obtain rfl := Option.some.inj h
      rfl
set_option maxRecDepth 100000 in
set_option maxHeartbeats 4000000 in
theorem e_X11_set {σ : St} {t : Nat} {M : MS} {p1 : Int32} {p2 : Int32} {ρ : Int32 × MS} (R : MR σ t) (h : g_X11_set M p1 p2 = some ρ) : f_X11_set (ij σ t M) t p1 p2 = some ((fun r => (r.1, ij σ t r.2)) ρ) := by
  unfold g_X11_set at h
  unfold f_X11_set
  try simp only [ij_dn R, ij_r0 R, ij_d0 R, ij_e0 R, ij_l0 R, ij_A0, ij_stA0, bnd]
  obtain ⟨x1, hxx1, h⟩ := bind_ok h
  refine bind_to (a := (fun (w : Int32) => w) x1) ?_ ?_
  · have h := hxx1
    refine if_to h (fun c2 h => ?_) (fun c2 h => ?_)
    · refine if_to h (fun c3 h => ?_) (fun c3 h => ?_)
      · refine if_to h (fun c4 h => ?_) (fun c4 h => ?_)
        · obtain rfl := Option.some.inj h
          rfl
        · obtain rfl := Option.some.inj h
          rfl
      · obtain rfl := Option.some.inj h
        rfl
    · obtain rfl := Option.some.inj h
      rfl
  · try simp only [ij_dn R, ij_r0 R, ij_d0 R, ij_e0 R, ij_l0 R, ij_A0, ij_stA0, bnd]
    obtain ⟨q5, g6, h⟩ := bind_ok h
    refine bind_to (e_X11_in R g6) ?_
    refine if_to h (fun c7 h => ?_) (fun c7 h => ?_)
    · obtain rfl := Option.some.inj h
      rfl
    · obtain ⟨x8, hxx8, h⟩ := bind_ok h
      refine bind_to (a := (fun (w : Int32) => w) x8) ?_ ?_
      · have h := hxx8
        refine if_to h (fun c9 h => ?_) (fun c9 h => ?_)
        · refine if_to h (fun c10 h => ?_) (fun c10 h => ?_)
          · obtain rfl := Option.some.inj h
            rfl
          · obtain rfl := Option.some.inj h
            rfl
        · obtain rfl := Option.some.inj h
          rfl
      · try simp only [ij_dn R, ij_r0 R, ij_d0 R, ij_e0 R, ij_l0 R, ij_A0, ij_stA0, bnd]
        obtain ⟨q11, g12, h⟩ := bind_ok h
        refine bind_to (e_X11_in R g12) ?_
        refine if_to h (fun c13 h => ?_) (fun c13 h => ?_)
        · obtain ⟨q14, g15, h⟩ := bind_ok h
          refine bind_to (e_X11_keeps R g15) ?_
          try simp only [ij_dn R, ij_r0 R, ij_d0 R, ij_e0 R, ij_l0 R, ij_A0, ij_stA0, bnd]
          obtain ⟨j16, g17, h⟩ := bind_ok h
          refine bind_to g17 ?_
          obtain ⟨j18, g19, h⟩ := bind_ok h
          refine bind_to g19 ?_
          obtain rfl := Option.some.inj h
          rfl
        · obtain rfl := Option.some.inj h
          rfl
set_option maxRecDepth 100000 in
set_option maxHeartbeats 4000000 in
theorem e_X11_shown {σ : St} {t : Nat} {M : MS} {p1 : Int32} {ρ : Int32} (R : MR σ t) (h : g_X11_shown M p1 = some ρ) : f_X11_shown (ij σ t M) t p1 = some ((fun r => r) ρ) := by
  unfold g_X11_shown at h
  unfold f_X11_shown
  try simp only [ij_dn R, ij_r4 R, ij_d4 R, ij_e4 R, ij_l4 R, ij_A4, ij_stA4, ij_r5 R, ij_d5 R, ij_e5 R, ij_l5 R, ij_A5, ij_stA5, bnd]
  obtain ⟨j1, g2, h⟩ := bind_ok h
  refine bind_to g2 ?_
  obtain ⟨q3, g4, h⟩ := bind_ok h
  refine bind_to (e_X11_numberOf R g4) ?_
  obtain ⟨j5, g6, h⟩ := bind_ok h
  refine bind_to g6 ?_
  refine if_to h (fun c7 h => ?_) (fun c7 h => ?_)
  · obtain rfl := Option.some.inj h
    rfl
  · obtain ⟨j8, g9, h⟩ := bind_ok h
    refine bind_to g9 ?_
    obtain ⟨q10, g11, h⟩ := bind_ok h
    refine bind_to (e_X11_leans R g11) ?_
    refine if_to h (fun c12 h => ?_) (fun c12 h => ?_)
    · obtain rfl := Option.some.inj h
      rfl
    · obtain ⟨w13, g14, h⟩ := bind_ok h
      refine bind_to g14 ?_
      refine if_to h (fun c15 h => ?_) (fun c15 h => ?_)
      · obtain rfl := Option.some.inj h
        rfl
      · obtain rfl := Option.some.inj h
        rfl
set_option maxRecDepth 100000 in
set_option maxHeartbeats 4000000 in
theorem e_X11_rowPart {σ : St} {t : Nat} {M : MS} {p1 : Int32} {p2 : Int32} {ρ : Int32} (R : MR σ t) (h : g_X11_rowPart M p1 p2 = some ρ) : f_X11_rowPart (ij σ t M) t p1 p2 = some ((fun r => r) ρ) := by
  unfold g_X11_rowPart at h
  unfold f_X11_rowPart
  try simp only [ij_dn R, ij_r4 R, ij_d4 R, ij_e4 R, ij_l4 R, ij_A4, ij_stA4, ij_r5 R, ij_d5 R, ij_e5 R, ij_l5 R, ij_A5, ij_stA5, ij_r6 R, ij_d6 R, ij_e6 R, ij_l6 R, ij_A6, ij_stA6, ij_r7 R, ij_d7 R, ij_e7 R, ij_l7 R, ij_A7, ij_stA7, ij_r8 R, ij_d8 R, ij_e8 R, ij_l8 R, ij_A8, ij_stA8, ij_r10 R, ij_d10 R, ij_e10 R, ij_l10 R, ij_A10, ij_stA10, ij_r11 R, ij_d11 R, ij_e11 R, ij_l11 R, ij_A11, ij_stA11, bnd]
  refine if_to h (fun _ h => ?_) (fun _ h => ?_)
  · obtain ⟨j1, g2, h⟩ := bind_ok h
    refine bind_to g2 ?_
    obtain rfl := Option.some.inj h
    rfl
  · skip
    refine if_to h (fun _ h => ?_) (fun _ h => ?_)
    · obtain ⟨j3, g4, h⟩ := bind_ok h
      refine bind_to g4 ?_
      obtain rfl := Option.some.inj h
      rfl
    · skip
      refine if_to h (fun _ h => ?_) (fun _ h => ?_)
      · obtain ⟨j5, g6, h⟩ := bind_ok h
        refine bind_to g6 ?_
        obtain rfl := Option.some.inj h
        rfl
      · skip
        refine if_to h (fun _ h => ?_) (fun _ h => ?_)
        · obtain ⟨j7, g8, h⟩ := bind_ok h
          refine bind_to g8 ?_
          obtain rfl := Option.some.inj h
          rfl
        · skip
          refine if_to h (fun _ h => ?_) (fun _ h => ?_)
          · obtain ⟨j9, g10, h⟩ := bind_ok h
            refine bind_to g10 ?_
            obtain rfl := Option.some.inj h
            rfl
          · skip
            refine if_to h (fun _ h => ?_) (fun _ h => ?_)
            · obtain ⟨j11, g12, h⟩ := bind_ok h
              refine bind_to g12 ?_
              obtain rfl := Option.some.inj h
              rfl
            · skip
              refine if_to h (fun _ h => ?_) (fun _ h => ?_)
              · obtain ⟨q13, g14, h⟩ := bind_ok h
                refine bind_to (e_X11_shown R g14) ?_
                obtain rfl := Option.some.inj h
                rfl
              · skip
                refine if_to h (fun _ h => ?_) (fun _ h => ?_)
                · obtain ⟨j15, g16, h⟩ := bind_ok h
                  refine bind_to g16 ?_
                  obtain rfl := Option.some.inj h
                  rfl
                · skip
                  obtain ⟨j17, g18, h⟩ := bind_ok h
                  refine bind_to g18 ?_
                  obtain ⟨j19, g20, h⟩ := bind_ok h
                  refine bind_to g20 ?_
                  obtain rfl := Option.some.inj h
                  rfl
set_option maxRecDepth 100000 in
set_option maxHeartbeats 4000000 in
theorem e_X11_row {σ : St} {t : Nat} {M : MS} {p1 : Int32} {p2 : Int32} {ρ : Int32 × MS} (R : MR σ t) (h : g_X11_row M p1 p2 = some ρ) : f_X11_row (ij σ t M) t p1 p2 = some ((fun r => (r.1, ij σ t r.2)) ρ) := by
  unfold g_X11_row at h
  unfold f_X11_row
  try simp only [ij_dn R, ij_I17, ij_stI17, bnd]
  refine if_to h (fun c1 h => ?_) (fun c1 h => ?_)
  · obtain rfl := Option.some.inj h
    rfl
  · obtain ⟨q2, g3, h⟩ := bind_ok h
    refine bind_to (e_X11_in R g3) ?_
    refine if_to h (fun c4 h => ?_) (fun c4 h => ?_)
    · obtain ⟨q5, g6, h⟩ := bind_ok h
      refine bind_to (e_X11_draws R g6) ?_
      try simp only [ij_dn R, ij_I17, ij_stI17, bnd]
      refine if_to h (fun c7 h => ?_) (fun c7 h => ?_)
      · obtain rfl := Option.some.inj h
        rfl
      · obtain ⟨q8, g9, h⟩ := bind_ok h
        refine bind_to (e_X11_rowPart R g9) ?_
        obtain rfl := Option.some.inj h
        rfl
    · obtain rfl := Option.some.inj h
      rfl
set_option maxRecDepth 100000 in
set_option maxHeartbeats 4000000 in
theorem e_X11_byteAt {σ : St} {t : Nat} {M : MS} {p1 : Int32} {p2 : Int32} {ρ : Int32} (R : MR σ t) (h : g_X11_byteAt M p1 p2 = some ρ) : f_X11_byteAt (ij σ t M) t p1 p2 = some ((fun r => r) ρ) := by
  unfold g_X11_byteAt at h
  unfold f_X11_byteAt
  try simp only [ij_dn R, ij_r4 R, ij_d4 R, ij_e4 R, ij_l4 R, ij_A4, ij_stA4, ij_r6 R, ij_d6 R, ij_e6 R, ij_l6 R, ij_A6, ij_stA6, ij_r7 R, ij_d7 R, ij_e7 R, ij_l7 R, ij_A7, ij_stA7, ij_r9 R, ij_d9 R, ij_e9 R, ij_l9 R, ij_A9, ij_stA9, bnd]
  obtain ⟨j1, g2, h⟩ := bind_ok h
  refine bind_to g2 ?_
  obtain ⟨j3, g4, h⟩ := bind_ok h
  refine bind_to g4 ?_
  obtain ⟨q5, g6, h⟩ := bind_ok h
  refine bind_to (e_X11_in R g6) ?_
  refine if_to h (fun c7 h => ?_) (fun c7 h => ?_)
  · obtain rfl := Option.some.inj h
    rfl
  · obtain ⟨j8, g9, h⟩ := bind_ok h
    refine bind_to g9 ?_
    obtain ⟨j10, g11, h⟩ := bind_ok h
    refine bind_to g11 ?_
    obtain ⟨q12, g13, h⟩ := bind_ok h
    refine bind_to (e_X11_of R g13) ?_
    obtain rfl := Option.some.inj h
    rfl
set_option maxRecDepth 100000 in
set_option maxHeartbeats 4000000 in
theorem eLGX11_at_60 {σ : St} {t : Nat} {μ : MS} {l1 : Int32} {l2 : Int32} {l3 : Int32} (R : MR σ t) : ∀ (n : Nat) (v4 : Int32) y, LGX11_at_60 n μ l1 l2 l3 v4 = some y → LX11_at_60 n (ij σ t μ) t l1 l2 l3 v4 = some ((Sum.map (fun r => (r.1, ij σ t r.2)) (fun w => ())) y) := by
  intro n
  induction n with
  | zero => intro _ _ h; cases (show (none : Option _) = some _ from h)
  | succ n ihx18 =>
    intro v4 yx18 h
    rw [LGX11_at_60] at h
    rw [LX11_at_60]
    try simp only [ij_dn R, ij_r0 R, ij_d0 R, ij_e0 R, ij_l0 R, ij_A0, ij_stA0, ij_r10 R, ij_d10 R, ij_e10 R, ij_l10 R, ij_A10, ij_stA10, ij_r11 R, ij_d11 R, ij_e11 R, ij_l11 R, ij_A11, ij_stA11, ij_I17, ij_stI17, bnd]
    refine if_to h (fun c19 h => ?_) (fun c19 h => ?_)
    · obtain rfl := Option.some.inj h
      rfl
    · obtain ⟨j20, g21, h⟩ := bind_ok h
      refine bind_to g21 ?_
      obtain ⟨x22, hxx22, Hx22⟩ := sb_ok h
      refine sb_to (x := Sum.map (Sum.map (fun r => (r.1, ij σ t r.2)) (fun w => ())) (fun w => ()) x22) ?_ ?_
      · have h := hxx22
        refine if_to h (fun c23 h => ?_) (fun c23 h => ?_)
        · obtain rfl := Option.some.inj h
          rfl
        · obtain ⟨j24, g25, h⟩ := bind_ok h
          refine bind_to g25 ?_
          refine if_to h (fun c26 h => ?_) (fun c26 h => ?_)
          · obtain rfl := Option.some.inj h
            rfl
          · obtain ⟨q27, g28, h⟩ := bind_ok h
            refine bind_to (e_X11_byteAt R g28) ?_
            obtain rfl := Option.some.inj h
            rfl
      · rcases Hx22 with rfl | ⟨wx22, rfl, h⟩
        · exact Or.inl rfl
        · refine Or.inr ⟨_, rfl, ?_⟩
          try simp only [ij_dn R, ij_r0 R, ij_d0 R, ij_e0 R, ij_l0 R, ij_A0, ij_stA0, ij_r10 R, ij_d10 R, ij_e10 R, ij_l10 R, ij_A10, ij_stA10, ij_r11 R, ij_d11 R, ij_e11 R, ij_l11 R, ij_A11, ij_stA11, ij_I17, ij_stI17, bnd]
          exact ihx18 _ _ h
set_option maxRecDepth 100000 in
set_option maxHeartbeats 4000000 in
theorem e_X11_at {σ : St} {t : Nat} {M : MS} {p1 : Int32} {p2 : Int32} {p3 : Int32} {ρ : Int32 × MS} (R : MR σ t) (h : g_X11_at M p1 p2 p3 = some ρ) : f_X11_at (ij σ t M) t p1 p2 p3 = some ((fun r => (r.1, ij σ t r.2)) ρ) := by
  unfold g_X11_at at h
  unfold f_X11_at
  try simp only [ij_dn R, ij_r0 R, ij_d0 R, ij_e0 R, ij_l0 R, ij_A0, ij_stA0, ij_r10 R, ij_d10 R, ij_e10 R, ij_l10 R, ij_A10, ij_stA10, ij_r11 R, ij_d11 R, ij_e11 R, ij_l11 R, ij_A11, ij_stA11, ij_I17, ij_stI17, bnd]
  obtain ⟨q1, g2, h⟩ := bind_ok h
  refine bind_to (e_X11_draws R g2) ?_
  try simp only [ij_dn R, ij_r0 R, ij_d0 R, ij_e0 R, ij_l0 R, ij_A0, ij_stA0, ij_r10 R, ij_d10 R, ij_e10 R, ij_l10 R, ij_A10, ij_stA10, ij_r11 R, ij_d11 R, ij_e11 R, ij_l11 R, ij_A11, ij_stA11, ij_I17, ij_stI17, bnd]
  obtain ⟨q3, g4, h⟩ := bind_ok h
  refine bind_to (e_X11_pages R g4) ?_
  obtain ⟨q5, g6, h⟩ := bind_ok h
  refine bind_to (e_X11_in R g6) ?_
  refine if_to h (fun c7 h => ?_) (fun c7 h => ?_)
  · obtain rfl := Option.some.inj h
    rfl
  · obtain ⟨j8, g9, h⟩ := bind_ok h
    refine bind_to g9 ?_
    obtain ⟨q10, g11, h⟩ := bind_ok h
    refine bind_to (e_X11_in R g11) ?_
    refine if_to h (fun c12 h => ?_) (fun c12 h => ?_)
    · obtain rfl := Option.some.inj h
      rfl
    · obtain ⟨j13, g14, h⟩ := bind_ok h
      refine bind_to g14 ?_
      obtain ⟨q15, g16, h⟩ := bind_ok h
      refine bind_to (e_X11_in R g16) ?_
      refine if_to h (fun c17 h => ?_) (fun c17 h => ?_)
      · obtain ⟨x18, hxx18, Hx18⟩ := sb_ok h
        refine sb_to (eLGX11_at_60 R FU _ _ hxx18) ?_
        rcases Hx18 with rfl | ⟨wx18, rfl, h⟩
        · exact Or.inl rfl
        · refine Or.inr ⟨_, rfl, ?_⟩
          try simp only [ij_dn R, ij_r0 R, ij_d0 R, ij_e0 R, ij_l0 R, ij_A0, ij_stA0, ij_r10 R, ij_d10 R, ij_e10 R, ij_l10 R, ij_A10, ij_stA10, ij_r11 R, ij_d11 R, ij_e11 R, ij_l11 R, ij_A11, ij_stA11, ij_I17, ij_stI17, bnd]
          obtain rfl := Option.some.inj h
          rfl
      · obtain rfl := Option.some.inj h
        rfl
set_option maxRecDepth 100000 in
set_option maxHeartbeats 4000000 in
theorem eLGX11_firstOn_2 {σ : St} {t : Nat} {μ : MS} {l1 : Int32} (R : MR σ t) : ∀ (n : Nat) (v2 : Int32) y, LGX11_firstOn_2 n μ l1 v2 = some y → LX11_firstOn_2 n (ij σ t μ) t l1 v2 = some ((fun w => w) y) := by
  intro n
  induction n with
  | zero => intro _ _ h; cases (show (none : Option _) = some _ from h)
  | succ n ihx1 =>
    intro v2 yx1 h
    rw [LGX11_firstOn_2] at h
    rw [LX11_firstOn_2]
    try simp only [ij_dn R, ij_r10 R, ij_d10 R, ij_e10 R, ij_l10 R, ij_A10, ij_stA10, bnd]
    obtain ⟨j2, g3, h⟩ := bind_ok h
    refine bind_to g3 ?_
    refine if_to h (fun c4 h => ?_) (fun c4 h => ?_)
    · obtain rfl := Option.some.inj h
      rfl
    · exact ihx1 _ _ h
set_option maxRecDepth 100000 in
set_option maxHeartbeats 4000000 in
theorem e_X11_firstOn {σ : St} {t : Nat} {M : MS} {p1 : Int32} {ρ : Int32} (R : MR σ t) (h : g_X11_firstOn M p1 = some ρ) : f_X11_firstOn (ij σ t M) t p1 = some ((fun r => r) ρ) := by
  unfold g_X11_firstOn at h
  unfold f_X11_firstOn
  try simp only [ij_dn R, ij_r10 R, ij_d10 R, ij_e10 R, ij_l10 R, ij_A10, ij_stA10, bnd]
  obtain ⟨x1, hxx1, h⟩ := bind_ok h
  refine bind_to (eLGX11_firstOn_2 R FU _ _ hxx1) ?_
  try simp only [ij_dn R, ij_r10 R, ij_d10 R, ij_e10 R, ij_l10 R, ij_A10, ij_stA10, bnd]
  obtain rfl := Option.some.inj h
  rfl
set_option maxRecDepth 100000 in
set_option maxHeartbeats 4000000 in
theorem e_X11_isMarked {σ : St} {t : Nat} {M : MS} {p1 : Int32} {ρ : Int32} (R : MR σ t) (h : g_X11_isMarked M p1 = some ρ) : f_X11_isMarked (ij σ t M) t p1 = some ((fun r => r) ρ) := by
  unfold g_X11_isMarked at h
  unfold f_X11_isMarked
  try simp only [ij_dn R, ij_r4 R, ij_d4 R, ij_e4 R, ij_l4 R, ij_A4, ij_stA4, ij_r5 R, ij_d5 R, ij_e5 R, ij_l5 R, ij_A5, ij_stA5, bnd]
  obtain ⟨q1, g2, h⟩ := bind_ok h
  refine bind_to (e_X11_pages R g2) ?_
  refine if_to h (fun c3 h => ?_) (fun c3 h => ?_)
  · obtain ⟨q4, g5, h⟩ := bind_ok h
    refine bind_to (e_X11_firstOn R g5) ?_
    obtain ⟨j6, g7, h⟩ := bind_ok h
    refine bind_to g7 ?_
    refine if_to h (fun c8 h => ?_) (fun c8 h => ?_)
    · obtain rfl := Option.some.inj h
      rfl
    · obtain ⟨j9, g10, h⟩ := bind_ok h
      refine bind_to g10 ?_
      obtain ⟨q11, g12, h⟩ := bind_ok h
      refine bind_to (e_X11_beginsStanza R g12) ?_
      refine if_to h (fun c13 h => ?_) (fun c13 h => ?_)
      · obtain rfl := Option.some.inj h
        rfl
      · obtain rfl := Option.some.inj h
        rfl
  · obtain rfl := Option.some.inj h
    rfl
set_option maxRecDepth 100000 in
set_option maxHeartbeats 4000000 in
theorem eLGX11_pagePart_11 {σ : St} {t : Nat} {μ : MS} {l1 : Int32} {l2 : Int32} (R : MR σ t) : ∀ (n : Nat) (v3 : Int32) (v4 : Int32) (v5 : Int32) (v6 : Int32) y, LGX11_pagePart_11 n μ l1 l2 v3 v4 v5 v6 = some y → LX11_pagePart_11 n (ij σ t μ) t l1 l2 v3 v4 v5 v6 = some ((fun w => (w.1, w.2.1, w.2.2)) y) := by
  intro n
  induction n with
  | zero => intro _ _ _ _ _ h; cases (show (none : Option _) = some _ from h)
  | succ n ihx1 =>
    intro v3 v4 v5 v6 yx1 h
    rw [LGX11_pagePart_11] at h
    rw [LX11_pagePart_11]
    try simp only [ij_dn R, ij_r5 R, ij_d5 R, ij_e5 R, ij_l5 R, ij_A5, ij_stA5, ij_r10 R, ij_d10 R, ij_e10 R, ij_l10 R, ij_A10, ij_stA10, ij_r11 R, ij_d11 R, ij_e11 R, ij_l11 R, ij_A11, ij_stA11, ij_I17, ij_stI17, bnd]
    refine if_to h (fun c2 h => ?_) (fun c2 h => ?_)
    · obtain rfl := Option.some.inj h
      rfl
    · obtain ⟨j3, g4, h⟩ := bind_ok h
      refine bind_to g4 ?_
      obtain ⟨x5, hxx5, h⟩ := bind_ok h
      refine bind_to (a := (fun (w : Int32 × Int32 × Int32) => (w.1, w.2.1, w.2.2)) x5) ?_ ?_
      · have h := hxx5
        refine if_to h (fun c6 h => ?_) (fun c6 h => ?_)
        · obtain rfl := Option.some.inj h
          rfl
        · obtain ⟨j7, g8, h⟩ := bind_ok h
          refine bind_to g8 ?_
          obtain ⟨j9, g10, h⟩ := bind_ok h
          refine bind_to g10 ?_
          obtain ⟨x11, hxx11, h⟩ := bind_ok h
          refine bind_to (a := (fun (w : Int32) => w) x11) ?_ ?_
          · have h := hxx11
            refine if_to h (fun c12 h => ?_) (fun c12 h => ?_)
            · obtain rfl := Option.some.inj h
              rfl
            · obtain rfl := Option.some.inj h
              rfl
          · try simp only [ij_dn R, ij_r5 R, ij_d5 R, ij_e5 R, ij_l5 R, ij_A5, ij_stA5, ij_r10 R, ij_d10 R, ij_e10 R, ij_l10 R, ij_A10, ij_stA10, ij_r11 R, ij_d11 R, ij_e11 R, ij_l11 R, ij_A11, ij_stA11, ij_I17, ij_stI17, bnd]
            obtain rfl := Option.some.inj h
            rfl
      · try simp only [ij_dn R, ij_r5 R, ij_d5 R, ij_e5 R, ij_l5 R, ij_A5, ij_stA5, ij_r10 R, ij_d10 R, ij_e10 R, ij_l10 R, ij_A10, ij_stA10, ij_r11 R, ij_d11 R, ij_e11 R, ij_l11 R, ij_A11, ij_stA11, ij_I17, ij_stI17, bnd]
        exact ihx1 _ _ _ _ _ h
set_option maxRecDepth 100000 in
set_option maxHeartbeats 4000000 in
theorem e_X11_pagePart {σ : St} {t : Nat} {M : MS} {p1 : Int32} {p2 : Int32} {ρ : Int32} (R : MR σ t) (h : g_X11_pagePart M p1 p2 = some ρ) : f_X11_pagePart (ij σ t M) t p1 p2 = some ((fun r => r) ρ) := by
  unfold g_X11_pagePart at h
  unfold f_X11_pagePart
  try simp only [ij_dn R, ij_r5 R, ij_d5 R, ij_e5 R, ij_l5 R, ij_A5, ij_stA5, ij_r10 R, ij_d10 R, ij_e10 R, ij_l10 R, ij_A10, ij_stA10, ij_r11 R, ij_d11 R, ij_e11 R, ij_l11 R, ij_A11, ij_stA11, ij_I17, ij_stI17, bnd]
  obtain ⟨x1, hxx1, h⟩ := bind_ok h
  refine bind_to (eLGX11_pagePart_11 R FU _ _ _ _ _ hxx1) ?_
  try simp only [ij_dn R, ij_r5 R, ij_d5 R, ij_e5 R, ij_l5 R, ij_A5, ij_stA5, ij_r10 R, ij_d10 R, ij_e10 R, ij_l10 R, ij_A10, ij_stA10, ij_r11 R, ij_d11 R, ij_e11 R, ij_l11 R, ij_A11, ij_stA11, ij_I17, ij_stI17, bnd]
  refine if_to h (fun _ h => ?_) (fun _ h => ?_)
  · obtain rfl := Option.some.inj h
    rfl
  · skip
    refine if_to h (fun _ h => ?_) (fun _ h => ?_)
    · obtain rfl := Option.some.inj h
      rfl
    · skip
      refine if_to h (fun _ h => ?_) (fun _ h => ?_)
      · obtain ⟨q13, g14, h⟩ := bind_ok h
        refine bind_to (e_X11_isMarked R g14) ?_
        refine if_to h (fun c15 h => ?_) (fun c15 h => ?_)
        · obtain rfl := Option.some.inj h
          rfl
        · obtain rfl := Option.some.inj h
          rfl
      · skip
        refine if_to h (fun _ h => ?_) (fun _ h => ?_)
        · obtain ⟨q16, g17, h⟩ := bind_ok h
          refine bind_to (e_X11_firstOn R g17) ?_
          obtain rfl := Option.some.inj h
          rfl
        · skip
          obtain rfl := Option.some.inj h
          rfl
set_option maxRecDepth 100000 in
set_option maxHeartbeats 4000000 in
theorem e_X11_page {σ : St} {t : Nat} {M : MS} {p1 : Int32} {p2 : Int32} {ρ : Int32 × MS} (R : MR σ t) (h : g_X11_page M p1 p2 = some ρ) : f_X11_page (ij σ t M) t p1 p2 = some ((fun r => (r.1, ij σ t r.2)) ρ) := by
  unfold g_X11_page at h
  unfold f_X11_page
  try simp only [ij_dn R, bnd]
  obtain ⟨q1, g2, h⟩ := bind_ok h
  refine bind_to (e_X11_draws R g2) ?_
  try simp only [ij_dn R, bnd]
  obtain ⟨q3, g4, h⟩ := bind_ok h
  refine bind_to (e_X11_pages R g4) ?_
  obtain ⟨q5, g6, h⟩ := bind_ok h
  refine bind_to (e_X11_in R g6) ?_
  refine if_to h (fun c7 h => ?_) (fun c7 h => ?_)
  · obtain rfl := Option.some.inj h
    rfl
  · obtain ⟨q8, g9, h⟩ := bind_ok h
    refine bind_to (e_X11_in R g9) ?_
    refine if_to h (fun c10 h => ?_) (fun c10 h => ?_)
    · obtain rfl := Option.some.inj h
      rfl
    · obtain ⟨q11, g12, h⟩ := bind_ok h
      refine bind_to (e_X11_pagePart R g12) ?_
      obtain rfl := Option.some.inj h
      rfl
set_option maxRecDepth 100000 in
set_option maxHeartbeats 4000000 in
theorem e_X11_aim {σ : St} {t : Nat} {M : MS} {p1 : Int32} {p2 : Int32} {p3 : Int32} {p4 : Int32} {ρ : Int32} (R : MR σ t) (h : g_X11_aim M p1 p2 p3 p4 = some ρ) : f_X11_aim (ij σ t M) p1 p2 p3 p4 = some ((fun r => r) ρ) := by
  unfold g_X11_aim at h
  unfold f_X11_aim
  try simp only [ij_dn R, bnd]
  refine if_to h (fun _ h => ?_) (fun _ h => ?_)
  · obtain rfl := Option.some.inj h
    rfl
  · skip
    refine if_to h (fun _ h => ?_) (fun _ h => ?_)
    · obtain ⟨w1, g2, h⟩ := bind_ok h
      refine bind_to g2 ?_
      obtain rfl := Option.some.inj h
      rfl
    · skip
      refine if_to h (fun _ h => ?_) (fun _ h => ?_)
      · obtain ⟨q3, g4, h⟩ := bind_ok h
        refine bind_to (e_X11_lesser R g4) ?_
        obtain ⟨w5, g6, h⟩ := bind_ok h
        refine bind_to g6 ?_
        obtain ⟨q7, g8, h⟩ := bind_ok h
        refine bind_to (e_X11_lesser R g8) ?_
        obtain rfl := Option.some.inj h
        rfl
      · skip
        refine if_to h (fun c9 h => ?_) (fun c9 h => ?_)
        · obtain ⟨w10, g11, h⟩ := bind_ok h
          refine bind_to g11 ?_
          obtain rfl := Option.some.inj h
          rfl
        · obtain ⟨w12, g13, h⟩ := bind_ok h
          refine bind_to g13 ?_
          obtain rfl := Option.some.inj h
          rfl
set_option maxRecDepth 100000 in
set_option maxHeartbeats 4000000 in
theorem eLGX11_far_96 {σ : St} {t : Nat} {μ : MS} {l2 : Int32} {l3 : Int32} {l4 : Int32} {l5 : Int32} (R : MR σ t) : ∀ (n : Nat) (v6 : Int32) (v7 : Int32) y, LGX11_far_96 n μ l2 l3 l4 l5 v6 v7 = some y → LX11_far_96 n (ij σ t μ) t l2 l3 l4 l5 v6 v7 = some ((fun w => w) y) := by
  intro n
  induction n with
  | zero => intro _ _ _ h; cases (show (none : Option _) = some _ from h)
  | succ n ihx17 =>
    intro v6 v7 yx17 h
    rw [LGX11_far_96] at h
    rw [LX11_far_96]
    try simp only [ij_dn R, ij_r4 R, ij_d4 R, ij_e4 R, ij_l4 R, ij_A4, ij_stA4, ij_r6 R, ij_d6 R, ij_e6 R, ij_l6 R, ij_A6, ij_stA6, ij_r7 R, ij_d7 R, ij_e7 R, ij_l7 R, ij_A7, ij_stA7, ij_r12 R, ij_d12 R, ij_e12 R, ij_l12 R, ij_A12, ij_stA12, ij_I17, ij_stI17, bnd]
    refine if_to h (fun c18 h => ?_) (fun c18 h => ?_)
    · obtain rfl := Option.some.inj h
      rfl
    · obtain ⟨j19, g20, h⟩ := bind_ok h
      refine bind_to g20 ?_
      obtain ⟨j21, g22, h⟩ := bind_ok h
      refine bind_to g22 ?_
      obtain ⟨q23, g24, h⟩ := bind_ok h
      refine bind_to (e_X11_aim R g24) ?_
      obtain ⟨x25, hxx25, h⟩ := bind_ok h
      refine bind_to (a := (fun (w : Int32) => w) x25) ?_ ?_
      · have h := hxx25
        refine if_to h (fun c26 h => ?_) (fun c26 h => ?_)
        · obtain rfl := Option.some.inj h
          rfl
        · obtain rfl := Option.some.inj h
          rfl
      · try simp only [ij_dn R, ij_r4 R, ij_d4 R, ij_e4 R, ij_l4 R, ij_A4, ij_stA4, ij_r6 R, ij_d6 R, ij_e6 R, ij_l6 R, ij_A6, ij_stA6, ij_r7 R, ij_d7 R, ij_e7 R, ij_l7 R, ij_A7, ij_stA7, ij_r12 R, ij_d12 R, ij_e12 R, ij_l12 R, ij_A12, ij_stA12, ij_I17, ij_stI17, bnd]
        exact ihx17 _ _ _ h
set_option maxRecDepth 100000 in
set_option maxHeartbeats 4000000 in
theorem eLGX11_far_11 {σ : St} {t : Nat} {μ : MS} {l1 : Int32} {l2 : Int32} (R : MR σ t) : ∀ (n : Nat) (v3 : Int32) (v4 : Int32) (v5 : Int32) (v6 : Int32) y, LGX11_far_11 n μ l1 l2 v3 v4 v5 v6 = some y → LX11_far_11 n (ij σ t μ) t l1 l2 v3 v4 v5 v6 = some ((fun w => (w.1, w.2.1, w.2.2)) y) := by
  intro n
  induction n with
  | zero => intro _ _ _ _ _ h; cases (show (none : Option _) = some _ from h)
  | succ n ihx1 =>
    intro v3 v4 v5 v6 yx1 h
    rw [LGX11_far_11] at h
    rw [LX11_far_11]
    try simp only [ij_dn R, ij_r4 R, ij_d4 R, ij_e4 R, ij_l4 R, ij_A4, ij_stA4, ij_r6 R, ij_d6 R, ij_e6 R, ij_l6 R, ij_A6, ij_stA6, ij_r7 R, ij_d7 R, ij_e7 R, ij_l7 R, ij_A7, ij_stA7, ij_r12 R, ij_d12 R, ij_e12 R, ij_l12 R, ij_A12, ij_stA12, ij_I17, ij_stI17, bnd]
    refine if_to h (fun c2 h => ?_) (fun c2 h => ?_)
    · obtain rfl := Option.some.inj h
      rfl
    · obtain ⟨j3, g4, h⟩ := bind_ok h
      refine bind_to g4 ?_
      obtain ⟨j5, g6, h⟩ := bind_ok h
      refine bind_to g6 ?_
      obtain ⟨x7, hxx7, h⟩ := bind_ok h
      refine bind_to (a := (fun (w : Int32 × Int32 × Int32) => (w.1, w.2.1, w.2.2)) x7) ?_ ?_
      · have h := hxx7
        refine if_to h (fun c8 h => ?_) (fun c8 h => ?_)
        · obtain rfl := Option.some.inj h
          rfl
        · obtain ⟨x9, hxx9, h⟩ := bind_ok h
          refine bind_to (a := (fun (w : Int32) => w) x9) ?_ ?_
          · have h := hxx9
            refine if_to h (fun c10 h => ?_) (fun c10 h => ?_)
            · obtain rfl := Option.some.inj h
              rfl
            · obtain rfl := Option.some.inj h
              rfl
          · try simp only [ij_dn R, ij_r4 R, ij_d4 R, ij_e4 R, ij_l4 R, ij_A4, ij_stA4, ij_r6 R, ij_d6 R, ij_e6 R, ij_l6 R, ij_A6, ij_stA6, ij_r7 R, ij_d7 R, ij_e7 R, ij_l7 R, ij_A7, ij_stA7, ij_r12 R, ij_d12 R, ij_e12 R, ij_l12 R, ij_A12, ij_stA12, ij_I17, ij_stI17, bnd]
            obtain ⟨j11, g12, h⟩ := bind_ok h
            refine bind_to g12 ?_
            obtain ⟨j13, g14, h⟩ := bind_ok h
            refine bind_to g14 ?_
            obtain ⟨x15, hxx15, h⟩ := bind_ok h
            refine bind_to (a := (fun (w : Int32) => w) x15) ?_ ?_
            · have h := hxx15
              refine if_to h (fun c16 h => ?_) (fun c16 h => ?_)
              · obtain rfl := Option.some.inj h
                rfl
              · obtain rfl := Option.some.inj h
                rfl
            · try simp only [ij_dn R, ij_r4 R, ij_d4 R, ij_e4 R, ij_l4 R, ij_A4, ij_stA4, ij_r6 R, ij_d6 R, ij_e6 R, ij_l6 R, ij_A6, ij_stA6, ij_r7 R, ij_d7 R, ij_e7 R, ij_l7 R, ij_A7, ij_stA7, ij_r12 R, ij_d12 R, ij_e12 R, ij_l12 R, ij_A12, ij_stA12, ij_I17, ij_stI17, bnd]
              obtain rfl := Option.some.inj h
              rfl
      · try simp only [ij_dn R, ij_r4 R, ij_d4 R, ij_e4 R, ij_l4 R, ij_A4, ij_stA4, ij_r6 R, ij_d6 R, ij_e6 R, ij_l6 R, ij_A6, ij_stA6, ij_r7 R, ij_d7 R, ij_e7 R, ij_l7 R, ij_A7, ij_stA7, ij_r12 R, ij_d12 R, ij_e12 R, ij_l12 R, ij_A12, ij_stA12, ij_I17, ij_stI17, bnd]
        exact ihx1 _ _ _ _ _ h
set_option maxRecDepth 100000 in
set_option maxHeartbeats 4000000 in
theorem e_X11_far {σ : St} {t : Nat} {M : MS} {p1 : Int32} {p2 : Int32} {ρ : Int32} (R : MR σ t) (h : g_X11_far M p1 p2 = some ρ) : f_X11_far (ij σ t M) t p1 p2 = some ((fun r => r) ρ) := by
  unfold g_X11_far at h
  unfold f_X11_far
  try simp only [ij_dn R, ij_r4 R, ij_d4 R, ij_e4 R, ij_l4 R, ij_A4, ij_stA4, ij_r6 R, ij_d6 R, ij_e6 R, ij_l6 R, ij_A6, ij_stA6, ij_r7 R, ij_d7 R, ij_e7 R, ij_l7 R, ij_A7, ij_stA7, ij_r12 R, ij_d12 R, ij_e12 R, ij_l12 R, ij_A12, ij_stA12, ij_I17, ij_stI17, bnd]
  obtain ⟨x1, hxx1, h⟩ := bind_ok h
  refine bind_to (eLGX11_far_11 R FU _ _ _ _ _ hxx1) ?_
  try simp only [ij_dn R, ij_r4 R, ij_d4 R, ij_e4 R, ij_l4 R, ij_A4, ij_stA4, ij_r6 R, ij_d6 R, ij_e6 R, ij_l6 R, ij_A6, ij_stA6, ij_r7 R, ij_d7 R, ij_e7 R, ij_l7 R, ij_A7, ij_stA7, ij_r12 R, ij_d12 R, ij_e12 R, ij_l12 R, ij_A12, ij_stA12, ij_I17, ij_stI17, bnd]
  obtain ⟨x17, hxx17, h⟩ := bind_ok h
  refine bind_to (eLGX11_far_96 R FU _ _ _ hxx17) ?_
  try simp only [ij_dn R, ij_r4 R, ij_d4 R, ij_e4 R, ij_l4 R, ij_A4, ij_stA4, ij_r6 R, ij_d6 R, ij_e6 R, ij_l6 R, ij_A6, ij_stA6, ij_r7 R, ij_d7 R, ij_e7 R, ij_l7 R, ij_A7, ij_stA7, ij_r12 R, ij_d12 R, ij_e12 R, ij_l12 R, ij_A12, ij_stA12, ij_I17, ij_stI17, bnd]
  obtain rfl := Option.some.inj h
  rfl
set_option maxRecDepth 100000 in
set_option maxHeartbeats 4000000 in
theorem eLGX11_nearest_4 {σ : St} {t : Nat} {μ : MS} {l1 : Int32} (R : MR σ t) : ∀ (n : Nat) (v2 : Int32) (v3 : Int32) y, LGX11_nearest_4 n μ l1 v2 v3 = some y → LX11_nearest_4 n (ij σ t μ) t l1 v2 v3 = some ((fun w => w) y) := by
  intro n
  induction n with
  | zero => intro _ _ _ h; cases (show (none : Option _) = some _ from h)
  | succ n ihx1 =>
    intro v2 v3 yx1 h
    rw [LGX11_nearest_4] at h
    rw [LX11_nearest_4]
    try simp only [ij_dn R, bnd]
    refine if_to h (fun c2 h => ?_) (fun c2 h => ?_)
    · obtain rfl := Option.some.inj h
      rfl
    · obtain ⟨q3, g4, h⟩ := bind_ok h
      refine bind_to (e_X11_far R g4) ?_
      obtain ⟨q5, g6, h⟩ := bind_ok h
      refine bind_to (e_X11_far R g6) ?_
      obtain ⟨x7, hxx7, h⟩ := bind_ok h
      refine bind_to (a := (fun (w : Int32) => w) x7) ?_ ?_
      · have h := hxx7
        refine if_to h (fun c8 h => ?_) (fun c8 h => ?_)
        · obtain rfl := Option.some.inj h
          rfl
        · obtain rfl := Option.some.inj h
          rfl
      · try simp only [ij_dn R, bnd]
        exact ihx1 _ _ _ h
set_option maxRecDepth 100000 in
set_option maxHeartbeats 4000000 in
theorem e_X11_nearest {σ : St} {t : Nat} {M : MS} {p1 : Int32} {ρ : Int32} (R : MR σ t) (h : g_X11_nearest M p1 = some ρ) : f_X11_nearest (ij σ t M) t p1 = some ((fun r => r) ρ) := by
  unfold g_X11_nearest at h
  unfold f_X11_nearest
  try simp only [ij_dn R, bnd]
  obtain ⟨x1, hxx1, h⟩ := bind_ok h
  refine bind_to (eLGX11_nearest_4 R FU _ _ _ hxx1) ?_
  try simp only [ij_dn R, bnd]
  obtain rfl := Option.some.inj h
  rfl
set_option maxRecDepth 100000 in
set_option maxHeartbeats 4000000 in
theorem e_X11_distance {σ : St} {t : Nat} {M : MS} {p1 : Int32} {ρ : Int32 × MS} (R : MR σ t) (h : g_X11_distance M p1 = some ρ) : f_X11_distance (ij σ t M) t p1 = some ((fun r => (r.1, ij σ t r.2)) ρ) := by
  unfold g_X11_distance at h
  unfold f_X11_distance
  try simp only [ij_dn R, ij_I6, ij_stI6, ij_I8, ij_stI8, bnd]
  obtain ⟨q1, g2, h⟩ := bind_ok h
  refine bind_to (e_X11_stanzas R g2) ?_
  obtain ⟨q3, g4, h⟩ := bind_ok h
  refine bind_to (e_X11_in R g4) ?_
  refine if_to h (fun c5 h => ?_) (fun c5 h => ?_)
  · obtain ⟨q6, g7, h⟩ := bind_ok h
    refine bind_to (e_X11_readsShape R g7) ?_
    try simp only [ij_dn R, ij_I6, ij_stI6, ij_I8, ij_stI8, bnd]
    refine if_to h (fun c8 h => ?_) (fun c8 h => ?_)
    · obtain ⟨q9, g10, h⟩ := bind_ok h
      refine bind_to (e_X11_draws R g10) ?_
      try simp only [ij_dn R, ij_I6, ij_stI6, ij_I8, ij_stI8, bnd]
      obtain ⟨q11, g12, h⟩ := bind_ok h
      refine bind_to (e_X11_far R g12) ?_
      obtain rfl := Option.some.inj h
      rfl
    · obtain rfl := Option.some.inj h
      rfl
  · obtain rfl := Option.some.inj h
    rfl
set_option maxRecDepth 100000 in
set_option maxHeartbeats 4000000 in
theorem e_X11_shape {σ : St} {t : Nat} {M : MS} {p1 : Int32} {ρ : Int32 × MS} (R : MR σ t) (h : g_X11_shape M p1 = some ρ) : f_X11_shape (ij σ t M) t p1 = some ((fun r => (r.1, ij σ t r.2)) ρ) := by
  unfold g_X11_shape at h
  unfold f_X11_shape
  try simp only [ij_dn R, bnd]
  obtain ⟨q1, g2, h⟩ := bind_ok h
  refine bind_to (e_X11_stanzas R g2) ?_
  obtain ⟨q3, g4, h⟩ := bind_ok h
  refine bind_to (e_X11_in R g4) ?_
  refine if_to h (fun c5 h => ?_) (fun c5 h => ?_)
  · obtain ⟨q6, g7, h⟩ := bind_ok h
    refine bind_to (e_X11_draws R g7) ?_
    try simp only [ij_dn R, bnd]
    obtain ⟨q8, g9, h⟩ := bind_ok h
    refine bind_to (e_X11_nearest R g9) ?_
    obtain rfl := Option.some.inj h
    rfl
  · obtain rfl := Option.some.inj h
    rfl
set_option maxRecDepth 100000 in
set_option maxHeartbeats 4000000 in
theorem e_X11_overRows {σ : St} {t : Nat} {M : MS}  {ρ : Int32} (R : MR σ t) (h : g_X11_overRows M  = some ρ) : f_X11_overRows (ij σ t M) t  = some ((fun r => r) ρ) := by
  unfold g_X11_overRows at h
  unfold f_X11_overRows
  try simp only [ij_dn R, ij_r0 R, ij_d0 R, ij_e0 R, ij_l0 R, ij_A0, ij_stA0, ij_I17, ij_stI17, bnd]
  obtain ⟨j1, g2, h⟩ := bind_ok h
  refine bind_to g2 ?_
  obtain rfl := Option.some.inj h
  rfl
set_option maxRecDepth 100000 in
set_option maxHeartbeats 4000000 in
theorem eLGX11_withinRows_4 {σ : St} {t : Nat} {μ : MS} (R : MR σ t) : ∀ (n : Nat) (v1 : Int32) (v2 : Int32) y, LGX11_withinRows_4 n μ v1 v2 = some y → LX11_withinRows_4 n (ij σ t μ) t v1 v2 = some ((fun w => w) y) := by
  intro n
  induction n with
  | zero => intro _ _ _ h; cases (show (none : Option _) = some _ from h)
  | succ n ihx1 =>
    intro v1 v2 yx1 h
    rw [LGX11_withinRows_4] at h
    rw [LX11_withinRows_4]
    try simp only [ij_dn R, ij_r8 R, ij_d8 R, ij_e8 R, ij_l8 R, ij_A8, ij_stA8, ij_I17, ij_stI17, bnd]
    refine if_to h (fun c2 h => ?_) (fun c2 h => ?_)
    · obtain rfl := Option.some.inj h
      rfl
    · obtain ⟨j3, g4, h⟩ := bind_ok h
      refine bind_to g4 ?_
      exact ihx1 _ _ _ h
set_option maxRecDepth 100000 in
set_option maxHeartbeats 4000000 in
theorem e_X11_withinRows {σ : St} {t : Nat} {M : MS}  {ρ : Int32} (R : MR σ t) (h : g_X11_withinRows M  = some ρ) : f_X11_withinRows (ij σ t M) t  = some ((fun r => r) ρ) := by
  unfold g_X11_withinRows at h
  unfold f_X11_withinRows
  try simp only [ij_dn R, ij_r8 R, ij_d8 R, ij_e8 R, ij_l8 R, ij_A8, ij_stA8, ij_I17, ij_stI17, bnd]
  obtain ⟨x1, hxx1, h⟩ := bind_ok h
  refine bind_to (eLGX11_withinRows_4 R FU _ _ _ hxx1) ?_
  try simp only [ij_dn R, ij_r8 R, ij_d8 R, ij_e8 R, ij_l8 R, ij_A8, ij_stA8, ij_I17, ij_stI17, bnd]
  obtain rfl := Option.some.inj h
  rfl
set_option maxRecDepth 100000 in
set_option maxHeartbeats 4000000 in
theorem eLGX11_bestWidth_44 {σ : St} {t : Nat} {l1 : Int32} {l2 : Int32} (R : MR σ t) : ∀ (n : Nat) (v3 : Int32) (v4 : Int32) (v5 : Int32) (μ : MS) y, LGX11_bestWidth_44 n l1 l2 v3 v4 v5 μ = some y → LX11_bestWidth_44 n t l1 l2 v3 v4 v5 (ij σ t μ) = some ((fun w => (w.1, ij σ t w.2)) y) := by
  intro n
  induction n with
  | zero => intro _ _ _ _ _ h; cases (show (none : Option _) = some _ from h)
  | succ n ihx9 =>
    intro v3 v4 v5 μ yx9 h
    rw [LGX11_bestWidth_44] at h
    rw [LX11_bestWidth_44]
    try simp only [ij_dn R, ij_r0 R, ij_d0 R, ij_e0 R, ij_l0 R, ij_A0, ij_stA0, bnd]
    refine if_to h (fun c10 h => ?_) (fun c10 h => ?_)
    · obtain rfl := Option.some.inj h
      rfl
    · obtain ⟨j11, g12, h⟩ := bind_ok h
      refine bind_to g12 ?_
      obtain ⟨q13, g14, h⟩ := bind_ok h
      refine bind_to (e_X11_draws R g14) ?_
      try simp only [ij_dn R, ij_r0 R, ij_d0 R, ij_e0 R, ij_l0 R, ij_A0, ij_stA0, bnd]
      obtain ⟨x15, hxx15, h⟩ := bind_ok h
      refine bind_to (a := (fun (w : Int32) => w) x15) ?_ ?_
      · have h := hxx15
        refine if_to h (fun c16 h => ?_) (fun c16 h => ?_)
        · refine if_to h (fun c17 h => ?_) (fun c17 h => ?_)
          · obtain ⟨q18, g19, h⟩ := bind_ok h
            refine bind_to (e_X11_withinRows R g19) ?_
            obtain rfl := Option.some.inj h
            rfl
          · obtain ⟨q20, g21, h⟩ := bind_ok h
            refine bind_to (e_X11_overRows R g21) ?_
            obtain rfl := Option.some.inj h
            rfl
        · obtain ⟨q22, g23, h⟩ := bind_ok h
          refine bind_to (e_X11_pages R g23) ?_
          obtain rfl := Option.some.inj h
          rfl
      · try simp only [ij_dn R, ij_r0 R, ij_d0 R, ij_e0 R, ij_l0 R, ij_A0, ij_stA0, bnd]
        obtain ⟨x24, hxx24, h⟩ := bind_ok h
        refine bind_to (a := (fun (w : Int32) => w) x24) ?_ ?_
        · have h := hxx24
          refine if_to h (fun c25 h => ?_) (fun c25 h => ?_)
          · obtain rfl := Option.some.inj h
            rfl
          · refine if_to h (fun c26 h => ?_) (fun c26 h => ?_)
            · obtain rfl := Option.some.inj h
              rfl
            · obtain rfl := Option.some.inj h
              rfl
        · try simp only [ij_dn R, ij_r0 R, ij_d0 R, ij_e0 R, ij_l0 R, ij_A0, ij_stA0, bnd]
          obtain ⟨x27, hxx27, h⟩ := bind_ok h
          refine bind_to (a := (fun (w : Int32) => w) x27) ?_ ?_
          · have h := hxx27
            refine if_to h (fun c28 h => ?_) (fun c28 h => ?_)
            · obtain rfl := Option.some.inj h
              rfl
            · obtain rfl := Option.some.inj h
              rfl
          · try simp only [ij_dn R, ij_r0 R, ij_d0 R, ij_e0 R, ij_l0 R, ij_A0, ij_stA0, bnd]
            obtain ⟨x29, hxx29, h⟩ := bind_ok h
            refine bind_to (a := (fun (w : Int32) => w) x29) ?_ ?_
            · have h := hxx29
              refine if_to h (fun c30 h => ?_) (fun c30 h => ?_)
              · obtain rfl := Option.some.inj h
                rfl
              · obtain rfl := Option.some.inj h
                rfl
            · try simp only [ij_dn R, ij_r0 R, ij_d0 R, ij_e0 R, ij_l0 R, ij_A0, ij_stA0, bnd]
              exact ihx9 _ _ _ _ _ h
set_option maxRecDepth 100000 in
set_option maxHeartbeats 4000000 in
theorem e_X11_bestWidth {σ : St} {t : Nat} {M : MS} {p1 : Int32} {ρ : Int32 × MS} (R : MR σ t) (h : g_X11_bestWidth M p1 = some ρ) : f_X11_bestWidth (ij σ t M) t p1 = some ((fun r => (r.1, ij σ t r.2)) ρ) := by
  unfold g_X11_bestWidth at h
  unfold f_X11_bestWidth
  try simp only [ij_dn R, ij_r0 R, ij_d0 R, ij_e0 R, ij_l0 R, ij_A0, ij_stA0, bnd]
  obtain ⟨q1, g2, h⟩ := bind_ok h
  refine bind_to (e_X11_in R g2) ?_
  refine if_to h (fun c3 h => ?_) (fun c3 h => ?_)
  · obtain ⟨j4, g5, h⟩ := bind_ok h
    refine bind_to g5 ?_
    refine if_to h (fun c6 h => ?_) (fun c6 h => ?_)
    · obtain ⟨j7, g8, h⟩ := bind_ok h
      refine bind_to g8 ?_
      obtain ⟨x9, hxx9, h⟩ := bind_ok h
      refine bind_to (eLGX11_bestWidth_44 R FU _ _ _ _ _ hxx9) ?_
      try simp only [ij_dn R, ij_r0 R, ij_d0 R, ij_e0 R, ij_l0 R, ij_A0, ij_stA0, bnd]
      obtain ⟨j31, g32, h⟩ := bind_ok h
      refine bind_to g32 ?_
      obtain rfl := Option.some.inj h
      rfl
    · obtain rfl := Option.some.inj h
      rfl
  · obtain rfl := Option.some.inj h
    rfl
set_option maxRecDepth 100000 in
set_option maxHeartbeats 4000000 in
theorem eLGX11_leastHeight_28 {σ : St} {t : Nat} {l1 : Int32} {l2 : Int32} (R : MR σ t) : ∀ (n : Nat) (v3 : Int32) (v4 : Int32) (μ : MS) y, LGX11_leastHeight_28 n l1 l2 v3 v4 μ = some y → LX11_leastHeight_28 n t l1 l2 v3 v4 (ij σ t μ) = some ((fun w => (w.1, ij σ t w.2)) y) := by
  intro n
  induction n with
  | zero => intro _ _ _ _ h; cases (show (none : Option _) = some _ from h)
  | succ n ihx6 =>
    intro v3 v4 μ yx6 h
    rw [LGX11_leastHeight_28] at h
    rw [LX11_leastHeight_28]
    try simp only [ij_dn R, ij_r0 R, ij_d0 R, ij_e0 R, ij_l0 R, ij_A0, ij_stA0, bnd]
    refine if_to h (fun c7 h => ?_) (fun c7 h => ?_)
    · obtain rfl := Option.some.inj h
      rfl
    · obtain ⟨j8, g9, h⟩ := bind_ok h
      refine bind_to g9 ?_
      obtain ⟨q10, g11, h⟩ := bind_ok h
      refine bind_to (e_X11_draws R g11) ?_
      try simp only [ij_dn R, ij_r0 R, ij_d0 R, ij_e0 R, ij_l0 R, ij_A0, ij_stA0, bnd]
      obtain ⟨q12, g13, h⟩ := bind_ok h
      refine bind_to (e_X11_pages R g13) ?_
      obtain ⟨x14, hxx14, h⟩ := bind_ok h
      refine bind_to (a := (fun (w : Int32) => w) x14) ?_ ?_
      · have h := hxx14
        refine if_to h (fun c15 h => ?_) (fun c15 h => ?_)
        · obtain rfl := Option.some.inj h
          rfl
        · obtain rfl := Option.some.inj h
          rfl
      · try simp only [ij_dn R, ij_r0 R, ij_d0 R, ij_e0 R, ij_l0 R, ij_A0, ij_stA0, bnd]
        exact ihx6 _ _ _ _ h
set_option maxRecDepth 100000 in
set_option maxHeartbeats 4000000 in
theorem e_X11_leastHeight {σ : St} {t : Nat} {M : MS} {p1 : Int32} {ρ : Int32 × MS} (R : MR σ t) (h : g_X11_leastHeight M p1 = some ρ) : f_X11_leastHeight (ij σ t M) t p1 = some ((fun r => (r.1, ij σ t r.2)) ρ) := by
  unfold g_X11_leastHeight at h
  unfold f_X11_leastHeight
  try simp only [ij_dn R, ij_r0 R, ij_d0 R, ij_e0 R, ij_l0 R, ij_A0, ij_stA0, bnd]
  obtain ⟨q1, g2, h⟩ := bind_ok h
  refine bind_to (e_X11_in R g2) ?_
  refine if_to h (fun c3 h => ?_) (fun c3 h => ?_)
  · obtain ⟨j4, g5, h⟩ := bind_ok h
    refine bind_to g5 ?_
    obtain ⟨x6, hxx6, h⟩ := bind_ok h
    refine bind_to (eLGX11_leastHeight_28 R FU _ _ _ _ hxx6) ?_
    try simp only [ij_dn R, ij_r0 R, ij_d0 R, ij_e0 R, ij_l0 R, ij_A0, ij_stA0, bnd]
    obtain ⟨j16, g17, h⟩ := bind_ok h
    refine bind_to g17 ?_
    obtain rfl := Option.some.inj h
    rfl
  · obtain rfl := Option.some.inj h
    rfl
set_option maxRecDepth 100000 in
set_option maxHeartbeats 4000000 in
theorem eLGX11_marked_4 {σ : St} {t : Nat} {μ : MS} (R : MR σ t) : ∀ (n : Nat) (v1 : Int32) (v2 : Int32) y, LGX11_marked_4 n μ v1 v2 = some y → LX11_marked_4 n (ij σ t μ) t v1 v2 = some ((fun w => w) y) := by
  intro n
  induction n with
  | zero => intro _ _ _ h; cases (show (none : Option _) = some _ from h)
  | succ n ihx1 =>
    intro v1 v2 yx1 h
    rw [LGX11_marked_4] at h
    rw [LX11_marked_4]
    try simp only [ij_dn R, bnd]
    obtain ⟨q2, g3, h⟩ := bind_ok h
    refine bind_to (e_X11_pages R g3) ?_
    refine if_to h (fun c4 h => ?_) (fun c4 h => ?_)
    · obtain rfl := Option.some.inj h
      rfl
    · obtain ⟨q5, g6, h⟩ := bind_ok h
      refine bind_to (e_X11_isMarked R g6) ?_
      obtain ⟨x7, hxx7, h⟩ := bind_ok h
      refine bind_to (a := (fun (w : Int32) => w) x7) ?_ ?_
      · have h := hxx7
        refine if_to h (fun c8 h => ?_) (fun c8 h => ?_)
        · obtain rfl := Option.some.inj h
          rfl
        · obtain rfl := Option.some.inj h
          rfl
      · try simp only [ij_dn R, bnd]
        exact ihx1 _ _ _ h
set_option maxRecDepth 100000 in
set_option maxHeartbeats 4000000 in
theorem e_X11_marked {σ : St} {t : Nat} {M : MS}  {ρ : Int32} (R : MR σ t) (h : g_X11_marked M  = some ρ) : f_X11_marked (ij σ t M) t  = some ((fun r => r) ρ) := by
  unfold g_X11_marked at h
  unfold f_X11_marked
  try simp only [ij_dn R, bnd]
  obtain ⟨x1, hxx1, h⟩ := bind_ok h
  refine bind_to (eLGX11_marked_4 R FU _ _ _ hxx1) ?_
  try simp only [ij_dn R, bnd]
  obtain rfl := Option.some.inj h
  rfl
set_option maxRecDepth 100000 in
set_option maxHeartbeats 4000000 in
theorem eLGX11_widest_4 {σ : St} {t : Nat} {μ : MS} (R : MR σ t) : ∀ (n : Nat) (v1 : Int32) (v2 : Int32) y, LGX11_widest_4 n μ v1 v2 = some y → LX11_widest_4 n (ij σ t μ) t v1 v2 = some ((fun w => w) y) := by
  intro n
  induction n with
  | zero => intro _ _ _ h; cases (show (none : Option _) = some _ from h)
  | succ n ihx1 =>
    intro v1 v2 yx1 h
    rw [LGX11_widest_4] at h
    rw [LX11_widest_4]
    try simp only [ij_dn R, ij_r6 R, ij_d6 R, ij_e6 R, ij_l6 R, ij_A6, ij_stA6, ij_r7 R, ij_d7 R, ij_e7 R, ij_l7 R, ij_A7, ij_stA7, ij_I17, ij_stI17, bnd]
    refine if_to h (fun c2 h => ?_) (fun c2 h => ?_)
    · obtain rfl := Option.some.inj h
      rfl
    · obtain ⟨j3, g4, h⟩ := bind_ok h
      refine bind_to g4 ?_
      obtain ⟨j5, g6, h⟩ := bind_ok h
      refine bind_to g6 ?_
      obtain ⟨x7, hxx7, h⟩ := bind_ok h
      refine bind_to (a := (fun (w : Int32) => w) x7) ?_ ?_
      · have h := hxx7
        refine if_to h (fun c8 h => ?_) (fun c8 h => ?_)
        · obtain rfl := Option.some.inj h
          rfl
        · obtain rfl := Option.some.inj h
          rfl
      · try simp only [ij_dn R, ij_r6 R, ij_d6 R, ij_e6 R, ij_l6 R, ij_A6, ij_stA6, ij_r7 R, ij_d7 R, ij_e7 R, ij_l7 R, ij_A7, ij_stA7, ij_I17, ij_stI17, bnd]
        exact ihx1 _ _ _ h
set_option maxRecDepth 100000 in
set_option maxHeartbeats 4000000 in
theorem e_X11_widest {σ : St} {t : Nat} {M : MS}  {ρ : Int32} (R : MR σ t) (h : g_X11_widest M  = some ρ) : f_X11_widest (ij σ t M) t  = some ((fun r => r) ρ) := by
  unfold g_X11_widest at h
  unfold f_X11_widest
  try simp only [ij_dn R, ij_r6 R, ij_d6 R, ij_e6 R, ij_l6 R, ij_A6, ij_stA6, ij_r7 R, ij_d7 R, ij_e7 R, ij_l7 R, ij_A7, ij_stA7, ij_I17, ij_stI17, bnd]
  obtain ⟨x1, hxx1, h⟩ := bind_ok h
  refine bind_to (eLGX11_widest_4 R FU _ _ _ hxx1) ?_
  try simp only [ij_dn R, ij_r6 R, ij_d6 R, ij_e6 R, ij_l6 R, ij_A6, ij_stA6, ij_r7 R, ij_d7 R, ij_e7 R, ij_l7 R, ij_A7, ij_stA7, ij_I17, ij_stI17, bnd]
  obtain rfl := Option.some.inj h
  rfl
set_option maxRecDepth 100000 in
set_option maxHeartbeats 4000000 in
theorem e_X11_number {σ : St} {t : Nat} {M : MS} {p1 : Int32} {ρ : Int32} (R : MR σ t) (h : g_X11_number M p1 = some ρ) : f_X11_number (ij σ t M) t p1 = some ((fun r => r) ρ) := by
  unfold g_X11_number at h
  unfold f_X11_number
  try simp only [ij_dn R, ij_r0 R, ij_d0 R, ij_e0 R, ij_l0 R, ij_A0, ij_stA0, ij_I2, ij_stI2, ij_I4, ij_stI4, ij_I17, ij_stI17, bnd]
  refine if_to h (fun _ h => ?_) (fun _ h => ?_)
  · obtain ⟨j1, g2, h⟩ := bind_ok h
    refine bind_to g2 ?_
    obtain rfl := Option.some.inj h
    rfl
  · skip
    refine if_to h (fun _ h => ?_) (fun _ h => ?_)
    · obtain ⟨q3, g4, h⟩ := bind_ok h
      refine bind_to (e_X11_stanzas R g4) ?_
      obtain rfl := Option.some.inj h
      rfl
    · skip
      refine if_to h (fun _ h => ?_) (fun _ h => ?_)
      · obtain rfl := Option.some.inj h
        rfl
      · skip
        refine if_to h (fun _ h => ?_) (fun _ h => ?_)
        · obtain ⟨q5, g6, h⟩ := bind_ok h
          refine bind_to (e_X11_pages R g6) ?_
          obtain rfl := Option.some.inj h
          rfl
        · skip
          refine if_to h (fun _ h => ?_) (fun _ h => ?_)
          · obtain ⟨q7, g8, h⟩ := bind_ok h
            refine bind_to (e_X11_overRows R g8) ?_
            obtain rfl := Option.some.inj h
            rfl
          · skip
            refine if_to h (fun _ h => ?_) (fun _ h => ?_)
            · obtain ⟨q9, g10, h⟩ := bind_ok h
              refine bind_to (e_X11_withinRows R g10) ?_
              obtain rfl := Option.some.inj h
              rfl
            · skip
              refine if_to h (fun _ h => ?_) (fun _ h => ?_)
              · obtain ⟨q11, g12, h⟩ := bind_ok h
                refine bind_to (e_X11_marked R g12) ?_
                obtain rfl := Option.some.inj h
                rfl
              · skip
                refine if_to h (fun _ h => ?_) (fun _ h => ?_)
                · obtain ⟨j13, g14, h⟩ := bind_ok h
                  refine bind_to g14 ?_
                  obtain ⟨q15, g16, h⟩ := bind_ok h
                  refine bind_to (e_X11_numberOf R g16) ?_
                  obtain rfl := Option.some.inj h
                  rfl
                · skip
                  refine if_to h (fun _ h => ?_) (fun _ h => ?_)
                  · obtain ⟨q17, g18, h⟩ := bind_ok h
                    refine bind_to (e_X11_widest R g18) ?_
                    obtain rfl := Option.some.inj h
                    rfl
                  · skip
                    refine if_to h (fun _ h => ?_) (fun _ h => ?_)
                    · obtain rfl := Option.some.inj h
                      rfl
                    · skip
                      refine if_to h (fun _ h => ?_) (fun _ h => ?_)
                      · obtain rfl := Option.some.inj h
                        rfl
                      · skip
                        obtain ⟨j19, g20, h⟩ := bind_ok h
                        refine bind_to g20 ?_
                        obtain rfl := Option.some.inj h
                        rfl
set_option maxRecDepth 100000 in
set_option maxHeartbeats 4000000 in
theorem e_X11_count {σ : St} {t : Nat} {M : MS} {p1 : Int32} {ρ : Int32 × MS} (R : MR σ t) (h : g_X11_count M p1 = some ρ) : f_X11_count (ij σ t M) t p1 = some ((fun r => (r.1, ij σ t r.2)) ρ) := by
  unfold g_X11_count at h
  unfold f_X11_count
  try simp only [ij_dn R, bnd]
  obtain ⟨q1, g2, h⟩ := bind_ok h
  refine bind_to (e_X11_in R g2) ?_
  refine if_to h (fun c3 h => ?_) (fun c3 h => ?_)
  · obtain ⟨q4, g5, h⟩ := bind_ok h
    refine bind_to (e_X11_draws R g5) ?_
    try simp only [ij_dn R, bnd]
    obtain ⟨q6, g7, h⟩ := bind_ok h
    refine bind_to (e_X11_number R g7) ?_
    obtain rfl := Option.some.inj h
    rfl
  · obtain rfl := Option.some.inj h
    rfl
set_option maxRecDepth 100000 in
set_option maxHeartbeats 4000000 in
theorem e_X11_mixes {σ : St} {t : Nat} {M : MS} {p1 : Int64} {ρ : MS} (R : MR σ t) (h : g_X11_mixes M p1 = some ρ) : f_X11_mixes (ij σ t M) t p1 = some ((fun r => ij σ t r) ρ) := by
  unfold g_X11_mixes at h
  unfold f_X11_mixes
  try simp only [ij_dn R, ij_J, ij_stJ, bnd]
  obtain rfl := Option.some.inj h
  rfl
set_option maxRecDepth 100000 in
set_option maxHeartbeats 4000000 in
theorem eLGX11_digest_226 {σ : St} {t : Nat}  (R : MR σ t) : ∀ (n : Nat) (v1 : Int32) (μ : MS) y, LGX11_digest_226 n v1 μ = some y → LX11_digest_226 n t v1 (ij σ t μ) = some ((fun w => ij σ t w) y) := by
  intro n
  induction n with
  | zero => intro _ _ _ h; cases (show (none : Option _) = some _ from h)
  | succ n ihx67 =>
    intro v1 μ yx67 h
    rw [LGX11_digest_226] at h
    rw [LX11_digest_226]
    try simp only [ij_dn R, ij_r0 R, ij_d0 R, ij_e0 R, ij_l0 R, ij_A0, ij_stA0, ij_r2 R, ij_d2 R, ij_e2 R, ij_l2 R, ij_A2, ij_stA2, ij_I4, ij_stI4, ij_I17, ij_stI17, ij_J, ij_stJ, bnd]
    refine if_to h (fun c68 h => ?_) (fun c68 h => ?_)
    · obtain rfl := Option.some.inj h
      rfl
    · obtain ⟨j69, g70, h⟩ := bind_ok h
      refine bind_to g70 ?_
      obtain ⟨q71, g72, h⟩ := bind_ok h
      refine bind_to (e_X11_mixes R g72) ?_
      try simp only [ij_dn R, ij_r0 R, ij_d0 R, ij_e0 R, ij_l0 R, ij_A0, ij_stA0, ij_r2 R, ij_d2 R, ij_e2 R, ij_l2 R, ij_A2, ij_stA2, ij_I4, ij_stI4, ij_I17, ij_stI17, ij_J, ij_stJ, bnd]
      exact ihx67 _ _ _ h
set_option maxRecDepth 100000 in
set_option maxHeartbeats 4000000 in
theorem eLGX11_digest_200 {σ : St} {t : Nat}  (R : MR σ t) : ∀ (n : Nat) (v1 : Int32) (μ : MS) y, LGX11_digest_200 n v1 μ = some y → LX11_digest_200 n t v1 (ij σ t μ) = some ((fun w => ij σ t w) y) := by
  intro n
  induction n with
  | zero => intro _ _ _ h; cases (show (none : Option _) = some _ from h)
  | succ n ihx59 =>
    intro v1 μ yx59 h
    rw [LGX11_digest_200] at h
    rw [LX11_digest_200]
    try simp only [ij_dn R, ij_r0 R, ij_d0 R, ij_e0 R, ij_l0 R, ij_A0, ij_stA0, ij_r2 R, ij_d2 R, ij_e2 R, ij_l2 R, ij_A2, ij_stA2, ij_I4, ij_stI4, ij_I17, ij_stI17, ij_J, ij_stJ, bnd]
    obtain ⟨q60, g61, h⟩ := bind_ok h
    refine bind_to (e_X11_stanzas R g61) ?_
    refine if_to h (fun c62 h => ?_) (fun c62 h => ?_)
    · obtain rfl := Option.some.inj h
      rfl
    · obtain ⟨q63, g64, h⟩ := bind_ok h
      refine bind_to (e_X11_nearest R g64) ?_
      obtain ⟨q65, g66, h⟩ := bind_ok h
      refine bind_to (e_X11_mixes R g66) ?_
      try simp only [ij_dn R, ij_r0 R, ij_d0 R, ij_e0 R, ij_l0 R, ij_A0, ij_stA0, ij_r2 R, ij_d2 R, ij_e2 R, ij_l2 R, ij_A2, ij_stA2, ij_I4, ij_stI4, ij_I17, ij_stI17, ij_J, ij_stJ, bnd]
      exact ihx59 _ _ _ h
set_option maxRecDepth 100000 in
set_option maxHeartbeats 4000000 in
theorem eLGX11_digest_146 {σ : St} {t : Nat}  (R : MR σ t) : ∀ (n : Nat) (v1 : Int32) (μ : MS) y, LGX11_digest_146 n v1 μ = some y → LX11_digest_146 n t v1 (ij σ t μ) = some ((fun w => ij σ t w) y) := by
  intro n
  induction n with
  | zero => intro _ _ _ h; cases (show (none : Option _) = some _ from h)
  | succ n ihx43 =>
    intro v1 μ yx43 h
    rw [LGX11_digest_146] at h
    rw [LX11_digest_146]
    try simp only [ij_dn R, ij_r0 R, ij_d0 R, ij_e0 R, ij_l0 R, ij_A0, ij_stA0, ij_r2 R, ij_d2 R, ij_e2 R, ij_l2 R, ij_A2, ij_stA2, ij_I4, ij_stI4, ij_I17, ij_stI17, ij_J, ij_stJ, bnd]
    obtain ⟨j44, g45, h⟩ := bind_ok h
    refine bind_to g45 ?_
    refine if_to h (fun c46 h => ?_) (fun c46 h => ?_)
    · obtain rfl := Option.some.inj h
      rfl
    · obtain ⟨j47, g48, h⟩ := bind_ok h
      refine bind_to g48 ?_
      obtain ⟨w49, g50, h⟩ := bind_ok h
      refine bind_to g50 ?_
      obtain ⟨j51, g52, h⟩ := bind_ok h
      refine bind_to g52 ?_
      obtain ⟨w53, g54, h⟩ := bind_ok h
      refine bind_to g54 ?_
      obtain ⟨q55, g56, h⟩ := bind_ok h
      refine bind_to (e_X11_byteAt R g56) ?_
      obtain ⟨q57, g58, h⟩ := bind_ok h
      refine bind_to (e_X11_mixes R g58) ?_
      try simp only [ij_dn R, ij_r0 R, ij_d0 R, ij_e0 R, ij_l0 R, ij_A0, ij_stA0, ij_r2 R, ij_d2 R, ij_e2 R, ij_l2 R, ij_A2, ij_stA2, ij_I4, ij_stI4, ij_I17, ij_stI17, ij_J, ij_stJ, bnd]
      exact ihx43 _ _ _ h
set_option maxRecDepth 100000 in
set_option maxHeartbeats 4000000 in
theorem eLGX11_digest_113 {σ : St} {t : Nat}  (R : MR σ t) : ∀ (n : Nat) (v1 : Int32) (μ : MS) y, LGX11_digest_113 n v1 μ = some y → LX11_digest_113 n t v1 (ij σ t μ) = some ((fun w => ij σ t w) y) := by
  intro n
  induction n with
  | zero => intro _ _ _ h; cases (show (none : Option _) = some _ from h)
  | succ n ihx31 =>
    intro v1 μ yx31 h
    rw [LGX11_digest_113] at h
    rw [LX11_digest_113]
    try simp only [ij_dn R, ij_r0 R, ij_d0 R, ij_e0 R, ij_l0 R, ij_A0, ij_stA0, ij_r2 R, ij_d2 R, ij_e2 R, ij_l2 R, ij_A2, ij_stA2, ij_I4, ij_stI4, ij_I17, ij_stI17, ij_J, ij_stJ, bnd]
    obtain ⟨q32, g33, h⟩ := bind_ok h
    refine bind_to (e_X11_pages R g33) ?_
    refine if_to h (fun c34 h => ?_) (fun c34 h => ?_)
    · obtain rfl := Option.some.inj h
      rfl
    · obtain ⟨w35, g36, h⟩ := bind_ok h
      refine bind_to g36 ?_
      obtain ⟨w37, g38, h⟩ := bind_ok h
      refine bind_to g38 ?_
      obtain ⟨q39, g40, h⟩ := bind_ok h
      refine bind_to (e_X11_pagePart R g40) ?_
      obtain ⟨q41, g42, h⟩ := bind_ok h
      refine bind_to (e_X11_mixes R g42) ?_
      try simp only [ij_dn R, ij_r0 R, ij_d0 R, ij_e0 R, ij_l0 R, ij_A0, ij_stA0, ij_r2 R, ij_d2 R, ij_e2 R, ij_l2 R, ij_A2, ij_stA2, ij_I4, ij_stI4, ij_I17, ij_stI17, ij_J, ij_stJ, bnd]
      exact ihx31 _ _ _ h
set_option maxRecDepth 100000 in
set_option maxHeartbeats 4000000 in
theorem eLGX11_digest_77 {σ : St} {t : Nat}  (R : MR σ t) : ∀ (n : Nat) (v1 : Int32) (μ : MS) y, LGX11_digest_77 n v1 μ = some y → LX11_digest_77 n t v1 (ij σ t μ) = some ((fun w => ij σ t w) y) := by
  intro n
  induction n with
  | zero => intro _ _ _ h; cases (show (none : Option _) = some _ from h)
  | succ n ihx21 =>
    intro v1 μ yx21 h
    rw [LGX11_digest_77] at h
    rw [LX11_digest_77]
    try simp only [ij_dn R, ij_r0 R, ij_d0 R, ij_e0 R, ij_l0 R, ij_A0, ij_stA0, ij_r2 R, ij_d2 R, ij_e2 R, ij_l2 R, ij_A2, ij_stA2, ij_I4, ij_stI4, ij_I17, ij_stI17, ij_J, ij_stJ, bnd]
    refine if_to h (fun c22 h => ?_) (fun c22 h => ?_)
    · obtain rfl := Option.some.inj h
      rfl
    · obtain ⟨w23, g24, h⟩ := bind_ok h
      refine bind_to g24 ?_
      obtain ⟨w25, g26, h⟩ := bind_ok h
      refine bind_to g26 ?_
      obtain ⟨q27, g28, h⟩ := bind_ok h
      refine bind_to (e_X11_rowPart R g28) ?_
      obtain ⟨q29, g30, h⟩ := bind_ok h
      refine bind_to (e_X11_mixes R g30) ?_
      try simp only [ij_dn R, ij_r0 R, ij_d0 R, ij_e0 R, ij_l0 R, ij_A0, ij_stA0, ij_r2 R, ij_d2 R, ij_e2 R, ij_l2 R, ij_A2, ij_stA2, ij_I4, ij_stI4, ij_I17, ij_stI17, ij_J, ij_stJ, bnd]
      exact ihx21 _ _ _ h
set_option maxRecDepth 100000 in
set_option maxHeartbeats 4000000 in
theorem eLGX11_digest_37 {σ : St} {t : Nat}  (R : MR σ t) : ∀ (n : Nat) (v1 : Int32) (μ : MS) y, LGX11_digest_37 n v1 μ = some y → LX11_digest_37 n t v1 (ij σ t μ) = some ((fun w => ij σ t w) y) := by
  intro n
  induction n with
  | zero => intro _ _ _ h; cases (show (none : Option _) = some _ from h)
  | succ n ihx9 =>
    intro v1 μ yx9 h
    rw [LGX11_digest_37] at h
    rw [LX11_digest_37]
    try simp only [ij_dn R, ij_r0 R, ij_d0 R, ij_e0 R, ij_l0 R, ij_A0, ij_stA0, ij_r2 R, ij_d2 R, ij_e2 R, ij_l2 R, ij_A2, ij_stA2, ij_I4, ij_stI4, ij_I17, ij_stI17, ij_J, ij_stJ, bnd]
    obtain ⟨j10, g11, h⟩ := bind_ok h
    refine bind_to g11 ?_
    refine if_to h (fun c12 h => ?_) (fun c12 h => ?_)
    · obtain rfl := Option.some.inj h
      rfl
    · obtain ⟨w13, g14, h⟩ := bind_ok h
      refine bind_to g14 ?_
      obtain ⟨w15, g16, h⟩ := bind_ok h
      refine bind_to g16 ?_
      obtain ⟨q17, g18, h⟩ := bind_ok h
      refine bind_to (e_X11_linePart R g18) ?_
      obtain ⟨q19, g20, h⟩ := bind_ok h
      refine bind_to (e_X11_mixes R g20) ?_
      try simp only [ij_dn R, ij_r0 R, ij_d0 R, ij_e0 R, ij_l0 R, ij_A0, ij_stA0, ij_r2 R, ij_d2 R, ij_e2 R, ij_l2 R, ij_A2, ij_stA2, ij_I4, ij_stI4, ij_I17, ij_stI17, ij_J, ij_stJ, bnd]
      exact ihx9 _ _ _ h
set_option maxRecDepth 100000 in
set_option maxHeartbeats 4000000 in
theorem eLGX11_digest_13 {σ : St} {t : Nat}  (R : MR σ t) : ∀ (n : Nat) (v1 : Int32) (μ : MS) y, LGX11_digest_13 n v1 μ = some y → LX11_digest_13 n t v1 (ij σ t μ) = some ((fun w => ij σ t w) y) := by
  intro n
  induction n with
  | zero => intro _ _ _ h; cases (show (none : Option _) = some _ from h)
  | succ n ihx3 =>
    intro v1 μ yx3 h
    rw [LGX11_digest_13] at h
    rw [LX11_digest_13]
    try simp only [ij_dn R, ij_r0 R, ij_d0 R, ij_e0 R, ij_l0 R, ij_A0, ij_stA0, ij_r2 R, ij_d2 R, ij_e2 R, ij_l2 R, ij_A2, ij_stA2, ij_I4, ij_stI4, ij_I17, ij_stI17, ij_J, ij_stJ, bnd]
    refine if_to h (fun c4 h => ?_) (fun c4 h => ?_)
    · obtain rfl := Option.some.inj h
      rfl
    · obtain ⟨q5, g6, h⟩ := bind_ok h
      refine bind_to (e_X11_number R g6) ?_
      obtain ⟨q7, g8, h⟩ := bind_ok h
      refine bind_to (e_X11_mixes R g8) ?_
      try simp only [ij_dn R, ij_r0 R, ij_d0 R, ij_e0 R, ij_l0 R, ij_A0, ij_stA0, ij_r2 R, ij_d2 R, ij_e2 R, ij_l2 R, ij_A2, ij_stA2, ij_I4, ij_stI4, ij_I17, ij_stI17, ij_J, ij_stJ, bnd]
      exact ihx3 _ _ _ h
set_option maxRecDepth 100000 in
set_option maxHeartbeats 4000000 in
theorem e_X11_digest {σ : St} {t : Nat} {M : MS}  {ρ : Int64 × MS} (R : MR σ t) (h : g_X11_digest M  = some ρ) : f_X11_digest (ij σ t M) t  = some ((fun r => (r.1, ij σ t r.2)) ρ) := by
  unfold g_X11_digest at h
  unfold f_X11_digest
  try simp only [ij_dn R, ij_r0 R, ij_d0 R, ij_e0 R, ij_l0 R, ij_A0, ij_stA0, ij_r2 R, ij_d2 R, ij_e2 R, ij_l2 R, ij_A2, ij_stA2, ij_I4, ij_stI4, ij_I17, ij_stI17, ij_J, ij_stJ, bnd]
  obtain ⟨q1, g2, h⟩ := bind_ok h
  refine bind_to (e_X11_draws R g2) ?_
  try simp only [ij_dn R, ij_r0 R, ij_d0 R, ij_e0 R, ij_l0 R, ij_A0, ij_stA0, ij_r2 R, ij_d2 R, ij_e2 R, ij_l2 R, ij_A2, ij_stA2, ij_I4, ij_stI4, ij_I17, ij_stI17, ij_J, ij_stJ, bnd]
  obtain ⟨x3, hxx3, h⟩ := bind_ok h
  refine bind_to (eLGX11_digest_13 R FU _ _ _ hxx3) ?_
  try simp only [ij_dn R, ij_r0 R, ij_d0 R, ij_e0 R, ij_l0 R, ij_A0, ij_stA0, ij_r2 R, ij_d2 R, ij_e2 R, ij_l2 R, ij_A2, ij_stA2, ij_I4, ij_stI4, ij_I17, ij_stI17, ij_J, ij_stJ, bnd]
  obtain ⟨x9, hxx9, h⟩ := bind_ok h
  refine bind_to (eLGX11_digest_37 R FU _ _ _ hxx9) ?_
  try simp only [ij_dn R, ij_r0 R, ij_d0 R, ij_e0 R, ij_l0 R, ij_A0, ij_stA0, ij_r2 R, ij_d2 R, ij_e2 R, ij_l2 R, ij_A2, ij_stA2, ij_I4, ij_stI4, ij_I17, ij_stI17, ij_J, ij_stJ, bnd]
  obtain ⟨x21, hxx21, h⟩ := bind_ok h
  refine bind_to (eLGX11_digest_77 R FU _ _ _ hxx21) ?_
  try simp only [ij_dn R, ij_r0 R, ij_d0 R, ij_e0 R, ij_l0 R, ij_A0, ij_stA0, ij_r2 R, ij_d2 R, ij_e2 R, ij_l2 R, ij_A2, ij_stA2, ij_I4, ij_stI4, ij_I17, ij_stI17, ij_J, ij_stJ, bnd]
  obtain ⟨x31, hxx31, h⟩ := bind_ok h
  refine bind_to (eLGX11_digest_113 R FU _ _ _ hxx31) ?_
  try simp only [ij_dn R, ij_r0 R, ij_d0 R, ij_e0 R, ij_l0 R, ij_A0, ij_stA0, ij_r2 R, ij_d2 R, ij_e2 R, ij_l2 R, ij_A2, ij_stA2, ij_I4, ij_stI4, ij_I17, ij_stI17, ij_J, ij_stJ, bnd]
  obtain ⟨x43, hxx43, h⟩ := bind_ok h
  refine bind_to (eLGX11_digest_146 R FU _ _ _ hxx43) ?_
  try simp only [ij_dn R, ij_r0 R, ij_d0 R, ij_e0 R, ij_l0 R, ij_A0, ij_stA0, ij_r2 R, ij_d2 R, ij_e2 R, ij_l2 R, ij_A2, ij_stA2, ij_I4, ij_stI4, ij_I17, ij_stI17, ij_J, ij_stJ, bnd]
  obtain ⟨x59, hxx59, h⟩ := bind_ok h
  refine bind_to (eLGX11_digest_200 R FU _ _ _ hxx59) ?_
  try simp only [ij_dn R, ij_r0 R, ij_d0 R, ij_e0 R, ij_l0 R, ij_A0, ij_stA0, ij_r2 R, ij_d2 R, ij_e2 R, ij_l2 R, ij_A2, ij_stA2, ij_I4, ij_stI4, ij_I17, ij_stI17, ij_J, ij_stJ, bnd]
  obtain ⟨x67, hxx67, h⟩ := bind_ok h
  refine bind_to (eLGX11_digest_226 R FU _ _ _ hxx67) ?_
  try simp only [ij_dn R, ij_r0 R, ij_d0 R, ij_e0 R, ij_l0 R, ij_A0, ij_stA0, ij_r2 R, ij_d2 R, ij_e2 R, ij_l2 R, ij_A2, ij_stA2, ij_I4, ij_stI4, ij_I17, ij_stI17, ij_J, ij_stJ, bnd]
  obtain rfl := Option.some.inj h
  rfl

theorem n_X8 {s : St} (c1 : hpC s + 2 ≤ NX) (c2 : hpS s + 82 ≤ SX) : ∃ τ, nwO s 8 = some (nw s 8 0 2) ∧ dn (nw s 8 0 2) 8 (some (hpN s)) = some (hpN s) ∧ f_X8_init (nw s 8 0 2) (hpN s) = some τ ∧ hpN τ = hpN s + 2 ∧ hpC τ = hpC s + 2 ∧ hpS τ = hpS s + 82 ∧ GN (hpN s) s τ ∧ XC τ (hpN s) := by
  have e : nwO s 8 = some (nw s 8 0 2) := nwO_ok (by omega) (by show hpS s + 2 ≤ SX; omega)
  have k : hpK (nw s 8 0 2) (hpN s) = 8 := by rw [hpK_nw, if_pos rfl]
  have ga : GN (hpN s) s (nw s 8 0 2) := GN_nw _ s 8 0 2
  obtain ⟨τ, r1, r2, r3, r4, r5, r6⟩ := i_X8 (σ := nw s 8 0 2) (t := hpN s) k rfl (by rw [hpC_nw]; omega) (by rw [hpS_nw]; omega)
  exact ⟨τ, e, dn_eq k, r1, r2, by rw [r3, hpC_nw], by rw [r4, hpS_nw], GN_trans ga r5 (by rw [hpN_nw]; omega) (.inl rfl), r6⟩
theorem n_X5 {s : St} (g : G0 s) (c1 : hpC s + 3 ≤ NX) (c2 : hpS s + 32 ≤ SX) : ∃ τ, nwO s 5 = some (nw s 5 0 3) ∧ dn (nw s 5 0 3) 5 (some (hpN s)) = some (hpN s) ∧ f_X5_init (nw s 5 0 3) (hpN s) = some τ ∧ hpN τ = hpN s + 3 ∧ hpC τ = hpC s + 3 ∧ hpS τ = hpS s + 32 ∧ GN (hpN s) s τ ∧ XP τ (hpN s) := by
  have e : nwO s 5 = some (nw s 5 0 3) := nwO_ok (by omega) (by show hpS s + 3 ≤ SX; omega)
  have k : hpK (nw s 5 0 3) (hpN s) = 5 := by rw [hpK_nw, if_pos rfl]
  have ga : GN (hpN s) s (nw s 5 0 3) := GN_nw _ s 5 0 3
  have g1 := G0_GN g ga (by rw [hpN_nw]; omega) (by have := g.1; omega)
  obtain ⟨τ, r1, r2, r3, r4, r5, r6⟩ := i_X5 (σ := nw s 5 0 3) (t := hpN s) k rfl g1 (by rw [hpC_nw]; omega) (by rw [hpS_nw]; omega)
  exact ⟨τ, e, dn_eq k, r1, r2, by rw [r3, hpC_nw], by rw [r4, hpS_nw], GN_trans ga r5 (by rw [hpN_nw]; omega) (.inl rfl), r6⟩
theorem n_X0 {s : St} (g : G0 s) (c1 : hpC s + 26 ≤ NX) (c2 : hpS s + 266 ≤ SX) : ∃ τ, nwO s 0 = some (nw s 0 0 2) ∧ dn (nw s 0 0 2) 0 (some (hpN s)) = some (hpN s) ∧ f_X0_init (nw s 0 0 2) (hpN s) = some τ ∧ hpN τ = hpN s + 26 ∧ hpC τ = hpC s + 26 ∧ hpS τ = hpS s + 266 ∧ GN (hpN s) s τ ∧ XH τ (hpN s) := by
  have e : nwO s 0 = some (nw s 0 0 2) := nwO_ok (by omega) (by show hpS s + 2 ≤ SX; omega)
  have k : hpK (nw s 0 0 2) (hpN s) = 0 := by rw [hpK_nw, if_pos rfl]
  have ga : GN (hpN s) s (nw s 0 0 2) := GN_nw _ s 0 0 2
  have g1 := G0_GN g ga (by rw [hpN_nw]; omega) (by have := g.1; omega)
  obtain ⟨τ, r1, r2, r3, r4, r5, r6⟩ := i_X0 (σ := nw s 0 0 2) (t := hpN s) k rfl g1 (by rw [hpC_nw]; omega) (by rw [hpS_nw]; omega)
  exact ⟨τ, e, dn_eq k, r1, r2, by rw [r3, hpC_nw], by rw [r4, hpS_nw], GN_trans ga r5 (by rw [hpN_nw]; omega) (.inl rfl), r6⟩
theorem n_X1 {s : St} (c1 : hpC s + 5 ≤ NX) (c2 : hpS s + 1017 ≤ SX) : ∃ τ, nwO s 1 = some (nw s 1 0 9) ∧ dn (nw s 1 0 9) 1 (some (hpN s)) = some (hpN s) ∧ f_X1_init (nw s 1 0 9) (hpN s) = some τ ∧ hpN τ = hpN s + 5 ∧ hpC τ = hpC s + 5 ∧ hpS τ = hpS s + 1017 ∧ GN (hpN s) s τ ∧ XL τ (hpN s) := by
  have e : nwO s 1 = some (nw s 1 0 9) := nwO_ok (by omega) (by show hpS s + 9 ≤ SX; omega)
  have k : hpK (nw s 1 0 9) (hpN s) = 1 := by rw [hpK_nw, if_pos rfl]
  have ga : GN (hpN s) s (nw s 1 0 9) := GN_nw _ s 1 0 9
  obtain ⟨τ, r1, r2, r3, r4, r5, r6⟩ := i_X1 (σ := nw s 1 0 9) (t := hpN s) k rfl (by rw [hpC_nw]; omega) (by rw [hpS_nw]; omega)
  exact ⟨τ, e, dn_eq k, r1, r2, by rw [r3, hpC_nw], by rw [r4, hpS_nw], GN_trans ga r5 (by rw [hpN_nw]; omega) (.inl rfl), r6⟩
/-- all that was there but x itself is the same, and the room -/
theorem i_X10 {σ : St} {x : Nat} (h1 : hpK σ x = 10) (h2 : x + 1 = hpN σ) (g : G0 σ) (c1 : hpC σ + 41 ≤ NX) (c2 : hpS σ + 2414 ≤ SX) : ∃ τ, f_X10_init σ x = some τ ∧ hpN τ = x + 42 ∧ hpC τ = hpC σ + 41 ∧ hpS τ = hpS σ + 2414 ∧ GN x σ τ ∧ hpK τ x = 10 ∧ (hpR τ 320 x = some (x + 1) ∧ hpR τ 321 x = some (x + 3) ∧ hpR τ 322 x = some (x + 6) ∧ hpR τ 323 x = some (x + 32) ∧ hpR τ 324 x = some (x + 37)) ∧ XC τ (x + 1) ∧ XP τ (x + 3) ∧ XH τ (x + 6) ∧ XL τ (x + 32) ∧ XL τ (x + 37) := by
  have hg : hpG σ 0 ≠ x := fun q => by have := g.2.1; rw [q, h1] at this; exact absurd this (by decide)
  rw [f_X10_init]
  have N0 : hpN σ = x + 1 ∧ hpC σ = hpC σ + 0 ∧ hpS σ = hpS σ + 0 ∧ hpK σ x = 10 := ⟨h2.symm, rfl, rfl, h1⟩
  have G0s : GN x σ σ := GN_refl x σ
  obtain ⟨t1, u1, v1, w1, a1, b1, d1, e1, f1⟩ := n_X8 (s := σ) (by omega) (by omega)
  have m1 : hpK t1 x = 10 := (e1.1 x (by omega)).1.trans N0.2.2.2
  rw [u1, bnd, v1, bnd, w1, bnd, dn_eq m1, bnd]
  rw [N0.1] at a1 e1 f1 ⊢
  have g1 : GN x t1 (stR t1 320 x (some (x + 1))) := GN_stR x t1 _ _
  have r1 : hpR (stR t1 320 x (some (x + 1))) 320 x = some (x + 1) := by rw [hpR_stR, if_pos ⟨rfl, rfl⟩]
  have z1 : hpN (stR t1 320 x (some (x + 1))) = hpN t1 ∧ hpC (stR t1 320 x (some (x + 1))) = hpC t1 ∧ hpS (stR t1 320 x (some (x + 1))) = hpS t1 ∧ hpK (stR t1 320 x (some (x + 1))) x = 10 := ⟨rfl, rfl, rfl, m1⟩
  generalize stR t1 320 x (some (x + 1)) = s1 at g1 z1 r1 ⊢
  have N1 : hpN s1 = x + 3 ∧ hpC s1 = hpC σ + 2 ∧ hpS s1 = hpS σ + 82 ∧ hpK s1 x = 10 := ⟨by omega, by omega, by omega, z1.2.2.2⟩
  have q1 : GN x σ s1 := GN_trans (GN_trans (GN_refl x σ) e1 (Nat.le_refl _) (.inr (by omega))) g1 (by omega) (.inl rfl)
  have G1s : GN x σ s1 := GN_trans G0s q1 (by omega) (.inl rfl)
  obtain ⟨t2, u2, v2, w2, a2, b2, d2, e2, f2⟩ := n_X5 (s := s1) (G0_GN g G1s (by omega) hg) (by omega) (by omega)
  have m2 : hpK t2 x = 10 := (e2.1 x (by omega)).1.trans N1.2.2.2
  rw [u2, bnd, v2, bnd, w2, bnd, dn_eq m2, bnd]
  rw [N1.1] at a2 e2 f2 ⊢
  have g2 : GN x t2 (stR t2 321 x (some (x + 3))) := GN_stR x t2 _ _
  have r2 : hpR (stR t2 321 x (some (x + 3))) 321 x = some (x + 3) := by rw [hpR_stR, if_pos ⟨rfl, rfl⟩]
  have r20 : hpR (stR t2 321 x (some (x + 3))) 320 x = some (x + 1) := by rw [hpR_stR, if_neg (fun y => absurd y.1 (by decide)), ((e2.1 x (by omega)).2 (by omega)).2.2.1]; exact r1
  have z2 : hpN (stR t2 321 x (some (x + 3))) = hpN t2 ∧ hpC (stR t2 321 x (some (x + 3))) = hpC t2 ∧ hpS (stR t2 321 x (some (x + 3))) = hpS t2 ∧ hpK (stR t2 321 x (some (x + 3))) x = 10 := ⟨rfl, rfl, rfl, m2⟩
  generalize stR t2 321 x (some (x + 3)) = s2 at g2 z2 r2 r20 ⊢
  have N2 : hpN s2 = x + 6 ∧ hpC s2 = hpC σ + 5 ∧ hpS s2 = hpS σ + 114 ∧ hpK s2 x = 10 := ⟨by omega, by omega, by omega, z2.2.2.2⟩
  have q2 : GN x s1 s2 := GN_trans (GN_trans (GN_refl x s1) e2 (Nat.le_refl _) (.inr (by omega))) g2 (by omega) (.inl rfl)
  have G2s : GN x σ s2 := GN_trans G1s q2 (by omega) (.inl rfl)
  obtain ⟨t3, u3, v3, w3, a3, b3, d3, e3, f3⟩ := n_X0 (s := s2) (G0_GN g G2s (by omega) hg) (by omega) (by omega)
  have m3 : hpK t3 x = 10 := (e3.1 x (by omega)).1.trans N2.2.2.2
  rw [u3, bnd, v3, bnd, w3, bnd, dn_eq m3, bnd]
  rw [N2.1] at a3 e3 f3 ⊢
  have g3 : GN x t3 (stR t3 322 x (some (x + 6))) := GN_stR x t3 _ _
  have r3 : hpR (stR t3 322 x (some (x + 6))) 322 x = some (x + 6) := by rw [hpR_stR, if_pos ⟨rfl, rfl⟩]
  have r30 : hpR (stR t3 322 x (some (x + 6))) 320 x = some (x + 1) := by rw [hpR_stR, if_neg (fun y => absurd y.1 (by decide)), ((e3.1 x (by omega)).2 (by omega)).2.2.1]; exact r20
  have r31 : hpR (stR t3 322 x (some (x + 6))) 321 x = some (x + 3) := by rw [hpR_stR, if_neg (fun y => absurd y.1 (by decide)), ((e3.1 x (by omega)).2 (by omega)).2.2.1]; exact r2
  have z3 : hpN (stR t3 322 x (some (x + 6))) = hpN t3 ∧ hpC (stR t3 322 x (some (x + 6))) = hpC t3 ∧ hpS (stR t3 322 x (some (x + 6))) = hpS t3 ∧ hpK (stR t3 322 x (some (x + 6))) x = 10 := ⟨rfl, rfl, rfl, m3⟩
  generalize stR t3 322 x (some (x + 6)) = s3 at g3 z3 r3 r30 r31 ⊢
  have N3 : hpN s3 = x + 32 ∧ hpC s3 = hpC σ + 31 ∧ hpS s3 = hpS σ + 380 ∧ hpK s3 x = 10 := ⟨by omega, by omega, by omega, z3.2.2.2⟩
  have q3 : GN x s2 s3 := GN_trans (GN_trans (GN_refl x s2) e3 (Nat.le_refl _) (.inr (by omega))) g3 (by omega) (.inl rfl)
  have G3s : GN x σ s3 := GN_trans G2s q3 (by omega) (.inl rfl)
  obtain ⟨t4, u4, v4, w4, a4, b4, d4, e4, f4⟩ := n_X1 (s := s3) (by omega) (by omega)
  have m4 : hpK t4 x = 10 := (e4.1 x (by omega)).1.trans N3.2.2.2
  rw [u4, bnd, v4, bnd, w4, bnd, dn_eq m4, bnd]
  rw [N3.1] at a4 e4 f4 ⊢
  have g4 : GN x t4 (stR t4 323 x (some (x + 32))) := GN_stR x t4 _ _
  have r4 : hpR (stR t4 323 x (some (x + 32))) 323 x = some (x + 32) := by rw [hpR_stR, if_pos ⟨rfl, rfl⟩]
  have r40 : hpR (stR t4 323 x (some (x + 32))) 320 x = some (x + 1) := by rw [hpR_stR, if_neg (fun y => absurd y.1 (by decide)), ((e4.1 x (by omega)).2 (by omega)).2.2.1]; exact r30
  have r41 : hpR (stR t4 323 x (some (x + 32))) 321 x = some (x + 3) := by rw [hpR_stR, if_neg (fun y => absurd y.1 (by decide)), ((e4.1 x (by omega)).2 (by omega)).2.2.1]; exact r31
  have r42 : hpR (stR t4 323 x (some (x + 32))) 322 x = some (x + 6) := by rw [hpR_stR, if_neg (fun y => absurd y.1 (by decide)), ((e4.1 x (by omega)).2 (by omega)).2.2.1]; exact r3
  have z4 : hpN (stR t4 323 x (some (x + 32))) = hpN t4 ∧ hpC (stR t4 323 x (some (x + 32))) = hpC t4 ∧ hpS (stR t4 323 x (some (x + 32))) = hpS t4 ∧ hpK (stR t4 323 x (some (x + 32))) x = 10 := ⟨rfl, rfl, rfl, m4⟩
  generalize stR t4 323 x (some (x + 32)) = s4 at g4 z4 r4 r40 r41 r42 ⊢
  have N4 : hpN s4 = x + 37 ∧ hpC s4 = hpC σ + 36 ∧ hpS s4 = hpS σ + 1397 ∧ hpK s4 x = 10 := ⟨by omega, by omega, by omega, z4.2.2.2⟩
  have q4 : GN x s3 s4 := GN_trans (GN_trans (GN_refl x s3) e4 (Nat.le_refl _) (.inr (by omega))) g4 (by omega) (.inl rfl)
  have G4s : GN x σ s4 := GN_trans G3s q4 (by omega) (.inl rfl)
  obtain ⟨t5, u5, v5, w5, a5, b5, d5, e5, f5⟩ := n_X1 (s := s4) (by omega) (by omega)
  have m5 : hpK t5 x = 10 := (e5.1 x (by omega)).1.trans N4.2.2.2
  rw [u5, bnd, v5, bnd, w5, bnd, dn_eq m5, bnd]
  rw [N4.1] at a5 e5 f5 ⊢
  have g5 : GN x t5 (stR t5 324 x (some (x + 37))) := GN_stR x t5 _ _
  have r5 : hpR (stR t5 324 x (some (x + 37))) 324 x = some (x + 37) := by rw [hpR_stR, if_pos ⟨rfl, rfl⟩]
  have r50 : hpR (stR t5 324 x (some (x + 37))) 320 x = some (x + 1) := by rw [hpR_stR, if_neg (fun y => absurd y.1 (by decide)), ((e5.1 x (by omega)).2 (by omega)).2.2.1]; exact r40
  have r51 : hpR (stR t5 324 x (some (x + 37))) 321 x = some (x + 3) := by rw [hpR_stR, if_neg (fun y => absurd y.1 (by decide)), ((e5.1 x (by omega)).2 (by omega)).2.2.1]; exact r41
  have r52 : hpR (stR t5 324 x (some (x + 37))) 322 x = some (x + 6) := by rw [hpR_stR, if_neg (fun y => absurd y.1 (by decide)), ((e5.1 x (by omega)).2 (by omega)).2.2.1]; exact r42
  have r53 : hpR (stR t5 324 x (some (x + 37))) 323 x = some (x + 32) := by rw [hpR_stR, if_neg (fun y => absurd y.1 (by decide)), ((e5.1 x (by omega)).2 (by omega)).2.2.1]; exact r4
  have z5 : hpN (stR t5 324 x (some (x + 37))) = hpN t5 ∧ hpC (stR t5 324 x (some (x + 37))) = hpC t5 ∧ hpS (stR t5 324 x (some (x + 37))) = hpS t5 ∧ hpK (stR t5 324 x (some (x + 37))) x = 10 := ⟨rfl, rfl, rfl, m5⟩
  generalize stR t5 324 x (some (x + 37)) = s5 at g5 z5 r5 r50 r51 r52 r53 ⊢
  have N5 : hpN s5 = x + 42 ∧ hpC s5 = hpC σ + 41 ∧ hpS s5 = hpS σ + 2414 ∧ hpK s5 x = 10 := ⟨by omega, by omega, by omega, z5.2.2.2⟩
  have q5 : GN x s4 s5 := GN_trans (GN_trans (GN_refl x s4) e5 (Nat.le_refl _) (.inr (by omega))) g5 (by omega) (.inl rfl)
  have G5s : GN x σ s5 := GN_trans G4s q5 (by omega) (.inl rfl)
  have y1 : ∀ a, x + 1 ≤ a → a < x + 3 → sam t1 s5 a := fun a a1 a2 => sam_trans (sam_trans (sam_trans (sam_trans ((g1.1 a (by omega)).2 (by omega)) ((q2.1 a (by omega)).2 (by omega))) ((q3.1 a (by omega)).2 (by omega))) ((q4.1 a (by omega)).2 (by omega))) ((q5.1 a (by omega)).2 (by omega))
  have y2 : ∀ a, x + 3 ≤ a → a < x + 6 → sam t2 s5 a := fun a a1 a2 => sam_trans (sam_trans (sam_trans ((g2.1 a (by omega)).2 (by omega)) ((q3.1 a (by omega)).2 (by omega))) ((q4.1 a (by omega)).2 (by omega))) ((q5.1 a (by omega)).2 (by omega))
  have y3 : ∀ a, x + 6 ≤ a → a < x + 32 → sam t3 s5 a := fun a a1 a2 => sam_trans (sam_trans ((g3.1 a (by omega)).2 (by omega)) ((q4.1 a (by omega)).2 (by omega))) ((q5.1 a (by omega)).2 (by omega))
  have y4 : ∀ a, x + 32 ≤ a → a < x + 37 → sam t4 s5 a := fun a a1 a2 => sam_trans ((g4.1 a (by omega)).2 (by omega)) ((q5.1 a (by omega)).2 (by omega))
  have y5 : ∀ a, x + 37 ≤ a → a < x + 42 → sam t5 s5 a := fun a a1 a2 => (g5.1 a (by omega)).2 (by omega)
  refine ⟨s5, rfl, N5.1, N5.2.1, N5.2.2.1, G5s, N5.2.2.2, ⟨r50, r51, r52, r53, r5⟩, XC_tr f1 (fun a a1 a2 => y1 a a1 (by omega)), XP_tr f2 (fun a a1 a2 => y2 a a1 (by omega)), XH_tr f3 (fun a a1 a2 => y3 a a1 (by omega)), XL_tr f4 (fun a a1 a2 => y4 a a1 (by omega)), XL_tr f5 (fun a a1 a2 => y5 a a1 (by omega))⟩

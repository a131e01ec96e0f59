theorem whole_start {p : Program} {e : Env} {s : State} {m : MethodId} {below : List Frame} {meth : Method} {c : Code} (l : Launch) (hflags : l.flags = flags0) {b L : Nat} {xs : Nat → Int32} (hL : L ≤ 260) (C0 : lw_At p s m meth c b L xs) : W p l e room_1 s m #[Value.ref b] below meth c s.heap [] 0 0 (lw_Z below #[Value.ref b] s) (entryFrame m ([Value.ref b] : List Value).toArray 11) := by
  obtain ⟨hx, hb, hr, hml, hown, hts, hX, hbl, hlocks, hgv⟩ := id C0
  obtain ⟨Γ, σ, g1, G, R, c0, s0, bN, bK, bL, g0, gs⟩ := glob_start hts hX hgv
  obtain ⟨ρ, e1, h1⟩ := law_ok c0 s0 bN bK bL (by omega) g0 gs
  have cx : Cx p room_1 s m #[Value.ref b] c Γ 11 σ cL_law RL := ⟨hx, hb, hml, hown, fun w hw => hts w (tb_lw hw), G, R, by rw [c0]; rfl, by rw [s0]; rfl⟩
  have K : Ol p l e s m b below meth c Γ 0 [(0, va_rf (some b))] [] σ := w_L_law cx hr hlocks g1.symm h1 e1
  have hl := lv_entry ([.ref b]) (n := 11) (Nat.le_of_ble_eq_true rfl)
  rw [lg_entry_eq]
  generalize (lg_sl ([.ref b]) ++ List.replicate (11 - (lg_sl ([.ref b])).length) Slot.unset).toArray = ls at hl ⊢
  have hl : lv_has ls 11 [(0, .ref b)] := hl
  exact W.widen (Nat.zero_le _) (Nat.zero_le _) (K s.heap [] ls R (fun q hq => by cases hq) hl)

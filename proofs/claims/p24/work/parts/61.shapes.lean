theorem wd_le {P : PoT} (ho : okP P) {W i : Nat} (hW : 12 ≤ W) (hW2 : W ≤ 60) (hi : i < rwN P W) : wdV P W i ≤ 60 := by
  have := (lay_wd ho hW hW2 P.2.1 (Nat.le_refl _) i hi).1
  have e : wdV P W i = rCo ((layA P W P.2.1).2 i) + rLe ((layA P W P.2.1).2 i) := rfl
  omega
theorem c_wid {C S : Nat} {σ : St} {t : Nat} {P : PoT} {W H : Nat} (lo : LO (fun _ => True) C S σ t P W H) {i : Nat} (hi : i < rwN P W) : f_X1_widthOf σ t (zI i) = some (zI (wdV P W i)) := c_widthOf lo.1.1 lo.1.2.1 hi
theorem c_gw1 {C S : Nat} {σ : St} {t : Nat} {P : PoT} {W H : Nat} (ho : okP P) (hW : 12 ≤ W) (hW2 : W ≤ 60) (lo : LO (fun _ => True) C S σ t P W H) {f0 m : Nat} (hf : f0 + m ≤ rwN P W) : ∀ (d i f : Nat), i + d = m → d < f → LX1_greatestWidth_5 f σ t (zI f0) (zI m) (zI (mxS (wdV P W) f0 i)) (zI ((f0 + i : Nat) : Int)) = some (zI (mxS (wdV P W) f0 m)) := by
  have h480 := rwN_le ho hW hW2
  intro d
  induction d with
  | zero =>
    intro i f hi hf'
    obtain ⟨f, rfl⟩ : ∃ f1, f = f1 + 1 := ⟨f - 1, by omega⟩
    have e : i = m := by omega
    subst e
    rw [LX1_greatestWidth_5, zN_add, if_pos ((zN_le (by omega) (by omega)).mpr (Nat.le_refl _))]
  | succ d ih =>
    intro i f hi hf'
    obtain ⟨f, rfl⟩ : ∃ f1, f = f1 + 1 := ⟨f - 1, by omega⟩
    have h1 : mxS (wdV P W) f0 i ≤ 60 := mxS_le i (fun j hj => wd_le ho hW hW2 (by omega))
    have h2 : wdV P W (f0 + i) ≤ 60 := wd_le ho hW hW2 (by omega)
    rw [LX1_greatestWidth_5, zN_add, if_neg (fun x => by have := (zN_le (by omega) (by omega)).mp x; omega), c_wid lo (by omega), bnd, jmax_z _ _ (by omega) (by omega), zN_add1]
    exact ih (i + 1) f (by omega) (by omega)
theorem c_gw {C S : Nat} {σ : St} {t : Nat} {P : PoT} {W H : Nat} (ho : okP P) (hW : 12 ≤ W) (hW2 : W ≤ 60) (lo : LO (fun _ => True) C S σ t P W H) {f0 m : Nat} (hf : f0 + m ≤ rwN P W) : f_X1_greatestWidth σ t (zI f0) (zI m) = some (zI (mxS (wdV P W) f0 m)) := by
  have h480 := rwN_le ho hW hW2
  have e := c_gw1 ho hW hW2 lo hf m 0 FU (by omega) (by simp only [FU]; omega)
  have e' : LX1_greatestWidth_5 FU σ t (zI f0) (zI m) 0 (zI f0) = _ := e
  rw [f_X1_greatestWidth, e', bnd]

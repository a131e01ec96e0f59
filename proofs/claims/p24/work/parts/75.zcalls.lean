-- the class's calls, the law's arrays beside them
section ZC
variable {x u v n : Nat} {σ : St} {P : PoT} {T A G R : Nat → Int32}
theorem WQ_x (W : WQ x σ u v P T n A G R) : dn σ 10 (some x) = some x := by
  obtain ⟨⟨hs, c, K⟩, _⟩ := W
  exact dn_eq K.1.1.1
theorem WQ_A (W : WQ x σ u v P T n A G R) : AR x σ A G R := W.2.2
theorem WQ_n (W : WQ x σ u v P T n A G R) : n ≤ 80 := by
  obtain ⟨⟨hs, c, K⟩, _⟩ := W
  exact K.1.2.1.1
theorem WQ_ok (W : WQ x σ u v P T n A G R) : okP P := by
  obtain ⟨⟨hs, c, K⟩, _⟩ := W
  exact K.2.2
theorem WQ_Q (W : WQ x σ u v P T n A G R) (hu : u ≤ NX) (hv : v ≤ SX) : ∃ hs c, KQ x σ P hs c T n := by
  obtain ⟨⟨hs, c, K⟩, Rr, _⟩ := W
  exact ⟨hs, c, K, Rm_mono Rr hu hv⟩
theorem z_type (W : WQ x σ u v P T n A G R) (hn : n < 80) (z : Nat) (hz : z ≤ 127) : ∃ τ, f_X10_type σ x (zI (z : Int)) = some (zI ((n + 1 : Nat) : Int), τ) ∧ WQ x τ u v P (upL T n (zI (z : Int))) (n + 1) A G R ∧ PZ x σ τ := by
  obtain ⟨⟨hs, c, K⟩, Rr, hA⟩ := W
  have hN := K.1.1.2.2.2.2.2.2
  obtain ⟨r, τ, a1, a2, a3, a4, a5, a6⟩ := k_type K Rr z (by omega) (by omega)
  obtain ⟨b1, b2⟩ := a6 ⟨by omega, by omega⟩ hn
  exact ⟨τ, by rw [a1, b1], ⟨⟨hs, c, b2⟩, a2, AR_GK hA a3 hN⟩, PZ_GK a3 (by omega)⟩
theorem z_clear (W : WQ x σ u v P T n A G R) : ∃ τ, f_X10_clear σ x = some (zI (n : Int), τ) ∧ WQ x τ u v P T 0 A G R ∧ PZ x σ τ := by
  obtain ⟨⟨hs, c, K⟩, Rr, hA⟩ := W
  have hN := K.1.1.2.2.2.2.2.2
  obtain ⟨τ, a1, a2, a3, a4⟩ := k_clear K Rr
  exact ⟨τ, a1, ⟨⟨hs, c, a4⟩, a2, AR_GK hA a3 hN⟩, PZ_GK a3 (by omega)⟩
theorem z_fault (W : WQ x σ u v P T n A G R) : f_X10_fault σ x 0 = some (zI (Flt T n)) := by
  obtain ⟨⟨hs, c, K⟩, Rr, hA⟩ := W
  exact k_fault K.1 false
theorem z_count10 (W : WQ x σ u v P T n A G R) (hu : u ≤ NX) (hv : v ≤ SX) : f_X10_count σ x 10 = some (zI (n : Int)) := by
  obtain ⟨hs, c, K⟩ := WQ_Q W hu hv
  exact qc K 10 (by decide)
theorem z_insert (W : WQ x σ u v P T n A G R) (hu : u + 4 ≤ NX) (hv : v + 129 ≤ SX) {p : Nat} (hp : p ≤ P.2.1) (h24 : P.2.1 < 24) (hf : Flt T n = -1) : ∃ τ, f_X10_insert σ x (zI (p : Int)) = some (zI ((P.2.1 + 1 : Nat) : Int), τ) ∧ WQ x τ (u + 4) (v + 129) (insP P p (lnT T n)) T n A G R ∧ PZ x σ τ := by
  obtain ⟨⟨hs, c, K⟩, Rr, hA⟩ := W
  have hN := K.1.1.2.2.2.2.2.2
  obtain ⟨r, τ, a1, a2, a3, a4, a5, a6, a7⟩ := k_insert K Rr hu hv p (by omega) (by omega)
  obtain ⟨b1, b2⟩ := a7 ⟨by omega, by omega⟩ hf h24
  exact ⟨τ, by rw [a1, b1], ⟨⟨_, _, b2⟩, a2, AR_GK hA a3 hN⟩, PZ_GK a3 (by omega)⟩
theorem z_insertBad (W : WQ x σ u v P T n A G R) (hu : u + 4 ≤ NX) (hv : v + 129 ≤ SX) {p : Nat} (hp : P.2.1 < p) (hp2 : p ≤ 1000) : ∃ τ, f_X10_insert σ x (zI (p : Int)) = some (-2, τ) ∧ WQ x τ (u + 4) (v + 129) P T n A G R ∧ PZ x σ τ := by
  obtain ⟨⟨hs, c, K⟩, Rr, hA⟩ := W
  have hN := K.1.1.2.2.2.2.2.2
  obtain ⟨r, τ, a1, a2, a3, a4, a5, a6, a7⟩ := k_insert K Rr hu hv p (by omega) (by omega)
  obtain ⟨b1, b2⟩ := a4 (fun y => by omega)
  exact ⟨τ, by rw [a1, b1], ⟨⟨_, _, b2⟩, a2, AR_GK hA a3 hN⟩, PZ_GK a3 (by omega)⟩
theorem z_insertFault (W : WQ x σ u v P T n A G R) (hu : u + 4 ≤ NX) (hv : v + 129 ≤ SX) {p : Nat} (hp : p ≤ P.2.1) (hf : Flt T n ≠ -1) : ∃ τ, f_X10_insert σ x (zI (p : Int)) = some (zI (-2000 - Flt T n), τ) ∧ WQ x τ (u + 4) (v + 129) P T n A G R ∧ PZ x σ τ := by
  obtain ⟨⟨hs, c, K⟩, Rr, hA⟩ := W
  have hN := K.1.1.2.2.2.2.2.2
  have h24 := K.2.2.1
  obtain ⟨r, τ, a1, a2, a3, a4, a5, a6, a7⟩ := k_insert K Rr hu hv p (by omega) (by omega)
  obtain ⟨b1, b2⟩ := a5 ⟨by omega, by omega⟩ hf
  exact ⟨τ, by rw [a1, b1], ⟨⟨_, _, b2⟩, a2, AR_GK hA a3 hN⟩, PZ_GK a3 (by omega)⟩
theorem z_replace (W : WQ x σ u v P T n A G R) (hu : u + 4 ≤ NX) (hv : v + 129 ≤ SX) {p : Nat} (hp : p < P.2.1) (hf : Flt T n = -1) : ∃ τ, f_X10_replace σ x (zI (p : Int)) = some (zI (nCnt (P.1 p) : Int), τ) ∧ WQ x τ (u + 4) (v + 129) (putL P p (lnT T n)) T n A G R ∧ PZ x σ τ := by
  obtain ⟨⟨hs, c, K⟩, Rr, hA⟩ := W
  have hN := K.1.1.2.2.2.2.2.2
  have h24 := K.2.2.1
  obtain ⟨r, τ, a1, a2, a3, a4, a5, a6⟩ := k_replace K Rr hu hv p (by omega) (by omega)
  obtain ⟨b1, b2⟩ := a6 ⟨by omega, by omega⟩ hf
  exact ⟨τ, by rw [a1, b1]; rfl, ⟨⟨_, _, b2⟩, a2, AR_GK hA a3 hN⟩, PZ_GK a3 (by omega)⟩
theorem z_replaceBad (W : WQ x σ u v P T n A G R) (hu : u + 4 ≤ NX) (hv : v + 129 ≤ SX) {p : Nat} (hp : P.2.1 ≤ p) (hp2 : p ≤ 1000) : ∃ τ, f_X10_replace σ x (zI (p : Int)) = some (-2, τ) ∧ WQ x τ (u + 4) (v + 129) P T n A G R ∧ PZ x σ τ := by
  obtain ⟨⟨hs, c, K⟩, Rr, hA⟩ := W
  have hN := K.1.1.2.2.2.2.2.2
  obtain ⟨r, τ, a1, a2, a3, a4, a5, a6⟩ := k_replace K Rr hu hv p (by omega) (by omega)
  obtain ⟨b1, b2⟩ := a4 (fun y => by omega)
  exact ⟨τ, by rw [a1, b1], ⟨⟨_, _, b2⟩, a2, AR_GK hA a3 hN⟩, PZ_GK a3 (by omega)⟩
theorem z_remove (W : WQ x σ u v P T n A G R) (hu : u + 4 ≤ NX) (hv : v + 129 ≤ SX) {p : Nat} (hp : p < P.2.1) : ∃ τ, f_X10_remove σ x (zI (p : Int)) = some (zI ((P.2.1 - 1 : Nat) : Int), τ) ∧ WQ x τ (u + 4) (v + 129) (dropP P p) T n A G R ∧ PZ x σ τ := by
  obtain ⟨⟨hs, c, K⟩, Rr, hA⟩ := W
  have hN := K.1.1.2.2.2.2.2.2
  have h24 := K.2.2.1
  obtain ⟨r, τ, a1, a2, a3, a4, a5⟩ := k_remove K Rr hu hv p (by omega) (by omega)
  obtain ⟨b1, b2⟩ := a5 ⟨by omega, by omega⟩
  exact ⟨τ, by rw [a1, b1], ⟨⟨_, _, b2⟩, a2, AR_GK hA a3 hN⟩, PZ_GK a3 (by omega)⟩
theorem z_removeBad (W : WQ x σ u v P T n A G R) (hu : u + 4 ≤ NX) (hv : v + 129 ≤ SX) {p : Nat} (hp : P.2.1 ≤ p) (hp2 : p ≤ 1000) : ∃ τ, f_X10_remove σ x (zI (p : Int)) = some (-2, τ) ∧ WQ x τ (u + 4) (v + 129) P T n A G R ∧ PZ x σ τ := by
  obtain ⟨⟨hs, c, K⟩, Rr, hA⟩ := W
  have hN := K.1.1.2.2.2.2.2.2
  obtain ⟨r, τ, a1, a2, a3, a4, a5⟩ := k_remove K Rr hu hv p (by omega) (by omega)
  obtain ⟨b1, b2⟩ := a4 (fun y => by omega)
  exact ⟨τ, by rw [a1, b1], ⟨⟨_, _, b2⟩, a2, AR_GK hA a3 hN⟩, PZ_GK a3 (by omega)⟩
theorem z_toggle (W : WQ x σ u v P T n A G R) (hu : u + 4 ≤ NX) (hv : v + 129 ≤ SX) {p : Nat} (hp : p < P.2.1) (b : Bool) : ∃ τ, f_X10_toggle σ x (zI (p : Int)) (if b = true then 1 else 0) = some (zI ((if b = true then 1 - nHf (P.1 p) else 1 - nLa (P.1 p) : Nat) : Int), τ) ∧ WQ x τ (u + 4) (v + 129) (putL P p (tgL (P.1 p) b)) T n A G R ∧ PZ x σ τ := by
  obtain ⟨⟨hs, c, K⟩, Rr, hA⟩ := W
  have hN := K.1.1.2.2.2.2.2.2
  have h24 := K.2.2.1
  obtain ⟨r, τ, a1, a2, a3, a4, a5⟩ := k_toggle K Rr hu hv p (by omega) (by omega) b
  obtain ⟨b1, b2⟩ := a5 ⟨by omega, by omega⟩
  exact ⟨τ, by rw [a1, b1]; rfl, ⟨⟨_, _, b2⟩, a2, AR_GK hA a3 hN⟩, PZ_GK a3 (by omega)⟩
theorem z_toggleBad (W : WQ x σ u v P T n A G R) (hu : u + 4 ≤ NX) (hv : v + 129 ≤ SX) {p : Nat} (hp : P.2.1 ≤ p) (hp2 : p ≤ 1000) (b : Bool) : ∃ τ, f_X10_toggle σ x (zI (p : Int)) (if b = true then 1 else 0) = some (-2, τ) ∧ WQ x τ (u + 4) (v + 129) P T n A G R ∧ PZ x σ τ := by
  obtain ⟨⟨hs, c, K⟩, Rr, hA⟩ := W
  have hN := K.1.1.2.2.2.2.2.2
  obtain ⟨r, τ, a1, a2, a3, a4, a5⟩ := k_toggle K Rr hu hv p (by omega) (by omega) b
  obtain ⟨b1, b2⟩ := a4 (fun y => by omega)
  exact ⟨τ, by rw [a1, b1], ⟨⟨_, _, b2⟩, a2, AR_GK hA a3 hN⟩, PZ_GK a3 (by omega)⟩
theorem z_set (W : WQ x σ u v P T n A G R) (hu : u + 4 ≤ NX) (hv : v + 129 ≤ SX) {i w : Nat} (hi : i < 5) (h1 : sLo i ≤ w) (h2 : w ≤ sHi i) : ∃ τ, f_X10_set σ x (zI (i : Int)) (zI (w : Int)) = some (zI (P.2.2 i : Int), τ) ∧ WQ x τ (u + 4) (v + 129) (setP P i w) T n A G R ∧ PZ x σ τ := by
  obtain ⟨⟨hs, c, K⟩, Rr, hA⟩ := W
  have hN := K.1.1.2.2.2.2.2.2
  have h60 : sHi i ≤ 60 := by
    unfold sHi
    split
    · omega
    · split
      · omega
      · split <;> omega
  obtain ⟨r, τ, a1, a2, a3, a4, a5⟩ := k_set K Rr hu hv i w (by omega) (by omega) (by omega) (by omega)
  obtain ⟨b1, b2⟩ := a5 ⟨by omega, by omega, by show (sLo i : Int) ≤ w; omega, by show (w : Int) ≤ sHi i; omega⟩
  exact ⟨τ, by rw [a1, b1]; rfl, ⟨⟨_, _, b2⟩, a2, AR_GK hA a3 hN⟩, PZ_GK a3 (by omega)⟩
theorem z_setBad (W : WQ x σ u v P T n A G R) (hu : u + 4 ≤ NX) (hv : v + 129 ≤ SX) {i : Nat} {w : Int} (hi : i ≤ 1000) (h0 : -1000 ≤ w) (h9 : w ≤ 1000) (h : ¬ (i < 5 ∧ (sLo i : Int) ≤ w ∧ w ≤ sHi i)) : ∃ τ, f_X10_set σ x (zI (i : Int)) (zI w) = some (-2, τ) ∧ WQ x τ (u + 4) (v + 129) P T n A G R ∧ PZ x σ τ := by
  obtain ⟨⟨hs, c, K⟩, Rr, hA⟩ := W
  have hN := K.1.1.2.2.2.2.2.2
  obtain ⟨r, τ, a1, a2, a3, a4, a5⟩ := k_set K Rr hu hv i w (by omega) (by omega) (by omega) (by omega)
  obtain ⟨b1, b2⟩ := a4 (fun y => h ⟨by omega, by have : (sLo i : Int) ≤ w := y.2.2.1; exact this, by have : w ≤ (sHi i : Int) := y.2.2.2; exact this⟩)
  exact ⟨τ, by rw [a1, b1], ⟨⟨_, _, b2⟩, a2, AR_GK hA a3 hN⟩, PZ_GK a3 (by omega)⟩
end ZC

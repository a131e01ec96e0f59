-- the law's bits: its rows as numbers
theorem zb (a : Nat) : (zI (a : Int)).toBitVec = BitVec.ofNat 32 a := by
  show BitVec.ofInt 32 (a : Int) = _
  exact BitVec.ofInt_natCast 32 a
theorem zbN {a : Nat} (h : a < 2147483648) : (zI (a : Int)).toBitVec.toNat = a := by
  rw [zb, BitVec.toNat_ofNat]; omega
theorem eq_zI {w : Int32} {a : Nat} (h : w.toBitVec.toNat = a) : w = zI (a : Int) := by
  apply Int32.toBitVec_inj.mp
  rw [zb]
  apply BitVec.eq_of_toNat_eq
  rw [h, BitVec.toNat_ofNat, Nat.mod_eq_of_lt]
  rw [← h]; exact w.toBitVec.isLt
theorem zand {a : Nat} (k : Nat) (b : Nat) (hb : b = 2 ^ k - 1) (h : a < 2147483648) (hk : b < 2147483648) : zI (a : Int) &&& zI (b : Int) = zI ((a % 2 ^ k : Nat) : Int) := by
  apply eq_zI
  rw [Int32.toBitVec_and, BitVec.toNat_and, zbN h, zbN hk, hb, Nat.and_two_pow_sub_one_eq_mod]
theorem zshr {a : Nat} (k : Nat) (hk : k < 31) (h : a < 2147483648) : zI (a : Int) >>> (zI (k : Int)) = zI ((a / 2 ^ k : Nat) : Int) := by
  apply eq_zI
  rw [Int32.toBitVec_shiftRight]
  have e : ((zI (k : Int)).toBitVec.smod 32#32).toNat = k := by
    rw [zb]
    have : ∀ k : Fin 31, ((BitVec.ofNat 32 k.1).smod 32#32).toNat = k.1 := by decide
    exact this ⟨k, hk⟩
  show (BitVec.sshiftRight (zI (a : Int)).toBitVec ((zI (k : Int)).toBitVec.smod 32#32).toNat).toNat = _
  rw [e, BitVec.sshiftRight_eq_of_msb_false, BitVec.toNat_ushiftRight, zbN h, Nat.shiftRight_eq_div_pow]
  rw [BitVec.msb_eq_false_iff_two_mul_lt, zbN h]; omega
theorem zshl {a : Nat} (k : Nat) (hk : k < 31) (h : a * 2 ^ k < 2147483648) : zI (a : Int) <<< (zI (k : Int)) = zI ((a * 2 ^ k : Nat) : Int) := by
  apply eq_zI
  rw [Int32.toBitVec_shiftLeft]
  have e : ((zI (k : Int)).toBitVec.smod 32#32).toNat = k := by
    rw [zb]
    have : ∀ k : Fin 31, ((BitVec.ofNat 32 k.1).smod 32#32).toNat = k.1 := by decide
    exact this ⟨k, hk⟩
  have e' : ((zI (k : Int)).toBitVec.smod 32).toNat = k := e
  have ha : a < 2147483648 := Nat.lt_of_le_of_lt (Nat.le_mul_of_pos_right a (Nat.two_pow_pos k)) h
  rw [BitVec.shiftLeft_eq', BitVec.toNat_shiftLeft, e', zbN ha, Nat.shiftLeft_eq, Nat.mod_eq_of_lt]
  omega
theorem zor {a b : Nat} (k : Nat) (h : a < 2 ^ k) (h1 : a < 2147483648) (h2 : b * 2 ^ k < 2147483648) (h3 : a + b * 2 ^ k < 2147483648) : zI (a : Int) ||| zI ((b * 2 ^ k : Nat) : Int) = zI ((a + b * 2 ^ k : Nat) : Int) := by
  apply eq_zI
  rw [Int32.toBitVec_or, BitVec.toNat_or, zbN h1, zbN h2, Nat.or_comm, Nat.mul_comm, ← Nat.two_pow_add_eq_or_of_lt h, Nat.add_comm]
/-- a row as the law keeps it -/
def enc (r : RT) : Nat := rLn r + 16 * rIx r + 256 * rCo r + 65536 * rLe r + 16777216 * rWi r + 33554432 * rFr r
def okE (r : RT) : Prop := rLn r < 16 ∧ rIx r < 16 ∧ rCo r < 256 ∧ rLe r < 256 ∧ rWi r < 2 ∧ rFr r < 64
theorem enc_lt {r : RT} (h : okE r) : enc r < 2147483648 := by
  obtain ⟨h1, h2, h3, h4, h5, h6⟩ := h
  unfold enc; omega
theorem f_first {σ : St} {r : RT} (h : okE r) : f_L_first σ (zI (enc r : Int)) = some (zI (rCo r : Int)) := by
  rw [f_L_first]
  have e : zI (enc r : Int) >>> (8 &&& 31) = zI ((enc r / 2 ^ 8 : Nat) : Int) := zshr 8 (by decide) (enc_lt h)
  rw [e]
  have e2 : zI ((enc r / 2 ^ 8 : Nat) : Int) &&& 255 = zI ((enc r / 2 ^ 8 % 2 ^ 8 : Nat) : Int) := zand 8 255 rfl (by have := enc_lt h; omega) (by decide)
  rw [e2]
  obtain ⟨h1, h2, h3, h4, h5, h6⟩ := h
  congr 3
  unfold enc; omega
theorem f_length {σ : St} {r : RT} (h : okE r) : f_L_length σ (zI (enc r : Int)) = some (zI (rLe r : Int)) := by
  rw [f_L_length]
  have e : zI (enc r : Int) >>> (16 &&& 31) = zI ((enc r / 2 ^ 16 : Nat) : Int) := zshr 16 (by decide) (enc_lt h)
  rw [e]
  have e2 : zI ((enc r / 2 ^ 16 : Nat) : Int) &&& 255 = zI ((enc r / 2 ^ 16 % 2 ^ 8 : Nat) : Int) := zand 8 255 rfl (by have := enc_lt h; omega) (by decide)
  rw [e2]
  obtain ⟨h1, h2, h3, h4, h5, h6⟩ := h
  congr 3
  unfold enc; omega
theorem dec_ln {r : RT} (h : okE r) : zI (enc r : Int) &&& 15 = zI (rLn r : Int) := by
  have e2 : zI (enc r : Int) &&& 15 = zI ((enc r % 2 ^ 4 : Nat) : Int) := zand 4 15 rfl (enc_lt h) (by decide)
  rw [e2]
  obtain ⟨h1, h2, h3, h4, h5, h6⟩ := h
  congr 2
  unfold enc; omega
theorem dec_ix {r : RT} (h : okE r) : (zI (enc r : Int) >>> (4 &&& 31)) &&& 15 = zI (rIx r : Int) := by
  have e : zI (enc r : Int) >>> (4 &&& 31) = zI ((enc r / 2 ^ 4 : Nat) : Int) := zshr 4 (by decide) (enc_lt h)
  rw [e]
  have e2 : zI ((enc r / 2 ^ 4 : Nat) : Int) &&& 15 = zI ((enc r / 2 ^ 4 % 2 ^ 4 : Nat) : Int) := zand 4 15 rfl (by have := enc_lt h; omega) (by decide)
  rw [e2]
  obtain ⟨h1, h2, h3, h4, h5, h6⟩ := h
  congr 2
  unfold enc; omega
theorem dec_wi {r : RT} (h : okE r) : (zI (enc r : Int) >>> (24 &&& 31)) &&& 1 = zI (rWi r : Int) := by
  have e : zI (enc r : Int) >>> (24 &&& 31) = zI ((enc r / 2 ^ 24 : Nat) : Int) := zshr 24 (by decide) (enc_lt h)
  rw [e]
  have e2 : zI ((enc r / 2 ^ 24 : Nat) : Int) &&& 1 = zI ((enc r / 2 ^ 24 % 2 ^ 1 : Nat) : Int) := zand 1 1 rfl (by have := enc_lt h; omega) (by decide)
  rw [e2]
  obtain ⟨h1, h2, h3, h4, h5, h6⟩ := h
  congr 2
  unfold enc; omega
theorem dec_fr {r : RT} (h : okE r) : (zI (enc r : Int) >>> (25 &&& 31)) &&& 127 = zI (rFr r : Int) := by
  have e : zI (enc r : Int) >>> (25 &&& 31) = zI ((enc r / 2 ^ 25 : Nat) : Int) := zshr 25 (by decide) (enc_lt h)
  rw [e]
  have e2 : zI ((enc r / 2 ^ 25 : Nat) : Int) &&& 127 = zI ((enc r / 2 ^ 25 % 2 ^ 7 : Nat) : Int) := zand 7 127 rfl (by have := enc_lt h; omega) (by decide)
  rw [e2]
  obtain ⟨h1, h2, h3, h4, h5, h6⟩ := h
  congr 2
  unfold enc; omega
theorem enc_mk {a b c d e : Nat} (h1 : a < 16) (h2 : b < 16) (h3 : c < 256) (h5 : d < 2) (h6 : e < 64) :
    ((((zI (a : Int) ||| (zI (b : Int) <<< (4 &&& 31))) ||| (zI (c : Int) <<< (8 &&& 31))) ||| (zI (d : Int) <<< (24 &&& 31))) ||| (zI (e : Int) <<< (25 &&& 31))) = zI (enc (a, b, c, e, 0, d) : Int) := by
  have e1 : zI (b : Int) <<< (4 &&& 31) = zI ((b * 2 ^ 4 : Nat) : Int) := zshl 4 (by decide) (by omega)
  have e2 : zI (c : Int) <<< (8 &&& 31) = zI ((c * 2 ^ 8 : Nat) : Int) := zshl 8 (by decide) (by omega)
  have e3 : zI (d : Int) <<< (24 &&& 31) = zI ((d * 2 ^ 24 : Nat) : Int) := zshl 24 (by decide) (by omega)
  have e4 : zI (e : Int) <<< (25 &&& 31) = zI ((e * 2 ^ 25 : Nat) : Int) := zshl 25 (by decide) (by omega)
  rw [e1, e2, e3, e4, zor 4 (by omega) (by omega) (by omega) (by omega), zor 8 (by omega) (by omega) (by omega) (by omega), zor 24 (by omega) (by omega) (by omega) (by omega), zor 25 (by omega) (by omega) (by omega) (by omega)]
  congr 2
  show _ = a + 16 * b + 256 * c + 65536 * 0 + 16777216 * d + 33554432 * e
  omega
/-- any number, cut to less than n -/
def lowN (v : Int32) (n : Nat) : Nat := (v &&& 2147483647).toInt.toNat % n
theorem and_pos (v : Int32) : ∃ a : Nat, a < 2147483648 ∧ v &&& 2147483647 = zI (a : Int) := by
  refine ⟨(v &&& 2147483647).toBitVec.toNat, ?_, eq_zI rfl⟩
  rw [Int32.toBitVec_and, BitVec.toNat_and, show (2147483647 : Int32).toBitVec.toNat = 2 ^ 31 - 1 from rfl, Nat.and_two_pow_sub_one_eq_mod]
  exact Nat.mod_lt _ (by decide)
theorem zdiv {a b : Nat} (ha : a < 2147483648) (hb : b < 2147483648) (h0 : 0 < b) : zI (a : Int) / zI (b : Int) = zI ((a / b : Nat) : Int) := by
  apply eq_zI
  rw [Int32.toBitVec_div, BitVec.sdiv_eq, zb, zb]
  have m1 : (BitVec.ofNat 32 a).msb = false := by rw [BitVec.msb_eq_false_iff_two_mul_lt, BitVec.toNat_ofNat]; omega
  have m2 : (BitVec.ofNat 32 b).msb = false := by rw [BitVec.msb_eq_false_iff_two_mul_lt, BitVec.toNat_ofNat]; omega
  rw [m1, m2]
  show ((BitVec.ofNat 32 a) / (BitVec.ofNat 32 b)).toNat = _
  rw [BitVec.toNat_udiv, BitVec.toNat_ofNat, BitVec.toNat_ofNat, Nat.mod_eq_of_lt (by omega), Nat.mod_eq_of_lt (by omega)]
theorem f_low (σ : St) (v : Int32) {n : Nat} (h0 : 0 < n) (hn : n < 2147483648) : f_L_low σ v (zI (n : Int)) = some (zI (lowN v n : Int)) ∧ lowN v n < n := by
  refine ⟨?_, Nat.mod_lt _ h0⟩
  obtain ⟨a, ha, e⟩ := and_pos v
  have hz : nz (zI (n : Int)) = some (zI (n : Int)) := if_neg (fun q => by rw [show (0 : Int32) = zI ((0 : Nat) : Int) from rfl, zN_eq (by omega) (by omega)] at q; omega)
  have et : (zI (a : Int)).toInt.toNat = a := by rw [zI_int (by omega) (by omega)]; rfl
  rw [f_L_low, hz, bnd, lowN, e, et, zdiv ha hn h0, zI_mul, zI_sub]
  congr 2
  have := Nat.div_add_mod a n
  rw [Nat.mul_comm] at this
  omega

/-! ===== numbers: what the machine's operations are on small numbers and on bits ===== -/
theorem n32_of {a : Int} (h1 : -2147483648 ≤ a) (h2 : a < 2147483648) : n32 a = a := Int32.toInt_ofInt_of_le (by omega) (by omega)
theorem n64_of {a : Int} (h1 : -9223372036854775808 ≤ a) (h2 : a < 9223372036854775808) : n64 a = a := Int64.toInt_ofInt_of_le (by omega) (by omega)
theorem n32_nat {a : Nat} (h : a < 2147483648) : n32 (a : Int) = (a : Int) := n32_of (by omega) (by omega)
theorem n32_raw (x : Int32) : n32 x.toInt = x.toInt := by unfold n32; rw [Int32.ofInt_toInt]
theorem n32_rng (a : Int) : -2147483648 ≤ n32 a ∧ n32 a < 2147483648 := ⟨Int32.le_toInt _, Int32.toInt_lt _⟩
theorem n32_idem (a : Int) : n32 (n32 a) = n32 a := by unfold n32; rw [Int32.ofInt_toInt]
theorem bv_nat {w a : Nat} (h : a < 2 ^ w) : (BitVec.ofInt w (a : Int)).toNat = a := by
  rw [BitVec.ofInt_natCast, BitVec.toNat_ofNat, Nat.mod_eq_of_lt h]
theorem toInt_small {x : BitVec 32} (h : x.toNat < 2147483648) : x.toInt = (x.toNat : Int) := by
  rw [BitVec.toInt_eq_toNat_cond]
  rw [if_pos (by omega)]
theorem iand_nat {a b : Nat} (ha : a < 2147483648) (hb : b < 2147483648) : iand a b = ((a &&& b : Nat) : Int) := by
  have h : (Int32.ofInt (a : Int) &&& Int32.ofInt (b : Int)).toBitVec.toNat = a &&& b := by
    rw [Int32.toBitVec_and, Int32.toBitVec_ofInt, Int32.toBitVec_ofInt, BitVec.toNat_and, bv_nat (by omega), bv_nat (by omega)]
  unfold iand
  show (Int32.ofInt (a : Int) &&& Int32.ofInt (b : Int)).toBitVec.toInt = _
  rw [toInt_small, h]
  rw [h]
  exact Nat.lt_of_le_of_lt Nat.and_le_left ha
theorem ior_nat {a b : Nat} (ha : a < 2147483648) (hb : b < 2147483648) : ior' a b = ((a ||| b : Nat) : Int) := by
  have h : (Int32.ofInt (a : Int) ||| Int32.ofInt (b : Int)).toBitVec.toNat = a ||| b := by
    rw [Int32.toBitVec_or, Int32.toBitVec_ofInt, Int32.toBitVec_ofInt, BitVec.toNat_or, bv_nat (by omega), bv_nat (by omega)]
  unfold ior'
  show (Int32.ofInt (a : Int) ||| Int32.ofInt (b : Int)).toBitVec.toInt = _
  rw [toInt_small, h]
  rw [h]
  exact Nat.or_lt_two_pow (n := 31) (by omega) (by omega)
theorem ixor_nat {a b : Nat} (ha : a < 2147483648) (hb : b < 2147483648) : ixor' a b = ((a ^^^ b : Nat) : Int) := by
  have h : (Int32.ofInt (a : Int) ^^^ Int32.ofInt (b : Int)).toBitVec.toNat = a ^^^ b := by
    rw [Int32.toBitVec_xor, Int32.toBitVec_ofInt, Int32.toBitVec_ofInt, BitVec.toNat_xor, bv_nat (by omega), bv_nat (by omega)]
  unfold ixor'
  show (Int32.ofInt (a : Int) ^^^ Int32.ofInt (b : Int)).toBitVec.toInt = _
  rw [toInt_small, h]
  rw [h]
  exact Nat.xor_lt_two_pow (n := 31) (by omega) (by omega)
theorem sh31 {k : Nat} (h : k < 32) : (Int32.ofInt (k : Int) &&& 31) = Int32.ofInt (k : Int) := by
  have : ∀ k : Nat, k < 32 → (Int32.ofInt (k : Int) &&& 31) = Int32.ofInt (k : Int) := by decide +kernel
  exact this k h
theorem sh63 {k : Nat} (h : k < 64) : ((Int32.ofInt (k : Int)).toInt64 &&& 63).toBitVec.toNat = k := by
  have : ∀ k : Nat, k < 64 → ((Int32.ofInt (k : Int)).toInt64 &&& 63).toBitVec.toNat = k := by decide +kernel
  exact this k h

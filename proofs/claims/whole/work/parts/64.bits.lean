/-! long words over naturals -/
theorem tn64 {n : Nat} (h : n < 9223372036854775808) : (Int64.ofInt (n : Int)).toBitVec.toNat = n := by
  rw [show (Int64.ofInt (n : Int)).toBitVec = BitVec.ofInt 64 (n : Int) from rfl, BitVec.toNat_ofInt]
  rw [show ((2 : Nat) ^ 64 : Nat) = 18446744073709551616 from rfl]
  omega
theorem toI64 {y : Int64} {n : Nat} (h : y.toBitVec.toNat = n) (hn : n < 9223372036854775808) : y.toInt = (n : Int) := by
  show y.toBitVec.toInt = _
  rw [BitVec.toInt_eq_toNat_of_lt (by omega), h]
theorem and64_n {n m : Nat} (h : n < 9223372036854775808) (h2 : m < 9223372036854775808) : and64 n m = ((n &&& m : Nat) : Int) := by
  unfold and64
  refine toI64 ?_ (Nat.lt_of_le_of_lt Nat.and_le_left h)
  rw [Int64.toBitVec_and, BitVec.toNat_and, tn64 h, tn64 h2]
theorem or64_n {n m : Nat} (h : n < 9223372036854775808) (h2 : m < 9223372036854775808) : or64 n m = ((n ||| m : Nat) : Int) := by
  unfold or64
  refine toI64 ?_ (Nat.or_lt_two_pow (n := 63) h h2)
  rw [Int64.toBitVec_or, BitVec.toNat_or, tn64 h, tn64 h2]
theorem shl64_8 {n : Nat} (h : n * 256 < 9223372036854775808) : shl64 n 8 = ((n * 256 : Nat) : Int) := by
  unfold shl64
  refine toI64 ?_ h
  rw [Int64.toBitVec_shiftLeft, show (((Int32.ofInt 8).toInt64 &&& 63).toBitVec.smod 64) = 8#64 by decide, BitVec.shiftLeft_eq', BitVec.toNat_shiftLeft, tn64 (by omega), Nat.shiftLeft_eq]
  rw [show (8#64).toNat = 8 from rfl, show (2 : Nat) ^ 8 = 256 from rfl, Nat.mod_eq_of_lt (by rw [show ((2 : Nat) ^ 64 : Nat) = 18446744073709551616 from rfl]; omega)]
theorem su64 : ∀ k : Nat, k < 64 → ((((Int32.ofInt k).toInt64.toUInt64 &&& Int64.toUInt64 63).toBitVec % 64)).toNat = k := by decide +kernel
theorem ushr64_n {n k : Nat} (h : n < 9223372036854775808) (hk : k < 64) : ushr64 n k = ((n / 2 ^ k : Nat) : Int) := by
  unfold ushr64
  refine toI64 ?_ (Nat.lt_of_le_of_lt (Nat.div_le_self _ _) h)
  show ((Int64.ofInt (n : Int)).toUInt64 >>> ((Int32.ofInt (k : Int)).toInt64.toUInt64 &&& Int64.toUInt64 63)).toBitVec.toNat = _
  rw [UInt64.toBitVec_shiftRight, BitVec.ushiftRight_eq', BitVec.toNat_ushiftRight, su64 k hk, Nat.shiftRight_eq_div_pow]
  show (Int64.ofInt (n : Int)).toBitVec.toNat / _ = _
  rw [tn64 h]
theorem and64_255 {n : Nat} (h : n < 9223372036854775808) : and64 n 255 = ((n % 256 : Nat) : Int) := by
  have := and64_n (n := n) (m := 255) h (by decide)
  rw [show (255 : Nat) = 2 ^ 8 - 1 from rfl, Nat.and_two_pow_sub_one_eq_mod] at this
  exact this
theorem cmp_0 (x y : Int) : (cmp64 x y = 0) ↔ x = y := by
  unfold cmp64
  by_cases h : y < x
  · rw [if_pos h]; omega
  · rw [if_neg h]
    by_cases h2 : x = y
    · rw [if_pos h2]; exact ⟨fun _ => h2, fun _ => rfl⟩
    · rw [if_neg h2]; omega
/-- the sign of an exclusive or tells whether the signs are unlike -/
theorem xor64_s {x y : Int} (hx : -9223372036854775808 ≤ x ∧ x < 9223372036854775808) (hy : -9223372036854775808 ≤ y ∧ y < 9223372036854775808) : (xor64 x y < 0) ↔ ¬ ((x < 0) ↔ (y < 0)) := by
  unfold xor64
  have ix : (BitVec.ofInt 64 x).toInt = x := by
    rw [BitVec.toInt_ofInt, Int.bmod_eq_of_le (by omega) (by omega)]
  have iy : (BitVec.ofInt 64 y).toInt = y := by
    rw [BitVec.toInt_ofInt, Int.bmod_eq_of_le (by omega) (by omega)]
  show ((Int64.ofInt x ^^^ Int64.ofInt y).toBitVec.toInt < 0) ↔ _
  rw [Int64.toBitVec_xor]
  show ((BitVec.ofInt 64 x ^^^ BitVec.ofInt 64 y).toInt < 0) ↔ _
  have m := BitVec.msb_eq_toInt (x := BitVec.ofInt 64 x ^^^ BitVec.ofInt 64 y)
  have mx := BitVec.msb_eq_toInt (x := BitVec.ofInt 64 x)
  have my := BitVec.msb_eq_toInt (x := BitVec.ofInt 64 y)
  rw [BitVec.msb_xor, mx, my, ix, iy] at m
  generalize (BitVec.ofInt 64 x ^^^ BitVec.ofInt 64 y).toInt = z at m
  by_cases a : x < 0 <;> by_cases b : y < 0 <;> simp [a, b] at m ⊢ <;> omega

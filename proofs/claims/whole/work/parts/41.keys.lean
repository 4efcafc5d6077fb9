/-! ===== the pure side 21: pipes as numbers ===== -/
theorem bvL_n {a : Nat} (ha : a < 9223372036854775808) : (Int64.ofInt (a : Int)).toBitVec.toNat = a := by
  rw [Int64.toBitVec_ofInt, BitVec.toNat_ofInt]
  omega
theorem jlor_n {a b : Nat} (ha : a < 9223372036854775808) (hb : b < 9223372036854775808) : jlor (a : Int) (b : Int) = ((a ||| b : Nat) : Int) := by
  have e : ((Int64.ofInt (a : Int)) ||| (Int64.ofInt (b : Int))).toBitVec.toNat = a ||| b := by
    rw [Int64.toBitVec_or, BitVec.toNat_or, bvL_n ha, bvL_n hb]
  have l : a ||| b < 2 ^ 63 := Nat.or_lt_two_pow ha hb
  unfold jlor
  rw [← Int64.toInt_toBitVec, BitVec.toInt_eq_toNat_of_lt (by rw [e]; omega), e]
theorem jland_n {a b : Nat} (ha : a < 9223372036854775808) (hb : b < 9223372036854775808) : jland (a : Int) (b : Int) = ((a &&& b : Nat) : Int) := by
  have e : ((Int64.ofInt (a : Int)) &&& (Int64.ofInt (b : Int))).toBitVec.toNat = a &&& b := by
    rw [Int64.toBitVec_and, BitVec.toNat_and, bvL_n ha, bvL_n hb]
  have l : a &&& b < 2 ^ 63 := Nat.and_lt_two_pow a hb
  unfold jland
  rw [← Int64.toInt_toBitVec, BitVec.toInt_eq_toNat_of_lt (by rw [e]; omega), e]
theorem jlshl_10 {a : Nat} (ha : a < 4194304) : jlshl (a : Int) 10 = ((a * 1024 : Nat) : Int) := by
  have e : ((Int64.ofInt (a : Int)) <<< ((Int32.ofInt 10).toInt64 &&& 63)).toBitVec.toNat = a * 1024 := by
    rw [Int64.toBitVec_shiftLeft, show (((Int32.ofInt 10).toInt64 &&& 63).toBitVec.smod 64) = 10#64 by decide, BitVec.shiftLeft_eq', BitVec.toNat_shiftLeft, bvL_n (by omega), show (10#64).toNat = 10 by decide, Nat.shiftLeft_eq]
    omega
  unfold jlshl
  rw [← Int64.toInt_toBitVec, BitVec.toInt_eq_toNat_of_lt (by rw [e]; omega), e]
theorem jlshr_n {a n : Nat} (ha : a < 9223372036854775808) (k : Int) (hk : (((Int32.ofInt k).toInt64 &&& 63).toBitVec.smod 64).toNat = n) : jlshr (a : Int) k = ((a / 2 ^ n : Nat) : Int) := by
  have e0 : (Int64.ofInt (a : Int)).toBitVec.toInt = (a : Int) := by
    rw [BitVec.toInt_eq_toNat_of_lt (by rw [bvL_n ha]; omega), bvL_n ha]
  unfold jlshr
  rw [← Int64.toInt_toBitVec, Int64.toBitVec_shiftRight, BitVec.sshiftRight_eq', hk, BitVec.toInt_sshiftRight, e0, Int.shiftRight_eq_div_pow]
  rfl
theorem jshl_5 : ∀ w : Nat, w < 24 → jshl (w : Int) 5 = ((w * 32 : Nat) : Int) := by decide

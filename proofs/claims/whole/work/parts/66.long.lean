/-! long words: letters of a name -/
theorem ofL_nat (a : Int) : (Int64.ofInt a).toBitVec.toNat = (a % 18446744073709551616).toNat := by
  show (BitVec.ofInt 64 a).toNat = _
  rw [BitVec.toNat_ofInt]; rfl
theorem land31 (a : Int) : land a 31 = a % 32 := by
  show (Int64.ofInt a &&& Int64.ofInt 31).toBitVec.toInt = a % 32
  have h : (Int64.ofInt a &&& Int64.ofInt 31).toBitVec.toNat = (a % 18446744073709551616).toNat % 32 := by
    rw [Int64.toBitVec_and, BitVec.toNat_and, ofL_nat]
    exact Nat.and_two_pow_sub_one_eq_mod _ 5
  rw [BitVec.toInt_eq_toNat_of_lt (by rw [h]; omega), h]
  omega
theorem lushr5 (a : Int) : lushr a 5 = (a % 18446744073709551616) / 32 := by
  have hk : ((Int32.ofInt 5).toInt64.toUInt64 &&& Int64.toUInt64 63) = 5 := by decide
  show ((Int64.ofInt a).toUInt64 >>> ((Int32.ofInt 5).toInt64.toUInt64 &&& Int64.toUInt64 63)).toInt64.toInt = _
  rw [hk]
  have h : ((Int64.ofInt a).toUInt64 >>> (5 : UInt64)).toInt64.toBitVec.toNat = (a % 18446744073709551616).toNat / 32 := by
    show ((Int64.ofInt a).toUInt64 >>> (5 : UInt64)).toNat = _
    rw [UInt64.toNat_shiftRight]
    show (Int64.ofInt a).toBitVec.toNat >>> (5 % 64) = _
    rw [ofL_nat, Nat.shiftRight_eq_div_pow]
  show ((Int64.ofInt a).toUInt64 >>> (5 : UInt64)).toInt64.toBitVec.toInt = _
  rw [BitVec.toInt_eq_toNat_of_lt (by rw [h]; omega), h]
  omega
theorem sh_key : ∀ n : Fin 64, (((Int32.ofInt (n.val : Int)).toInt64 &&& 63).toBitVec.smod 64#64).toNat = n.val := by decide
theorem lshr_n {a : Int} (n : Nat) (hn : n < 64) (ha : c64 a) : lshr a (n : Int) = a / 2 ^ n := by
  show (Int64.ofInt a >>> ((Int32.ofInt (n : Int)).toInt64 &&& 63)).toBitVec.toInt = _
  rw [Int64.toBitVec_shiftRight]
  show ((Int64.ofInt a).toBitVec.sshiftRight (((Int32.ofInt (n : Int)).toInt64 &&& 63).toBitVec.smod 64#64).toNat).toInt = _
  rw [sh_key ⟨n, hn⟩, BitVec.toInt_sshiftRight]
  show (Int64.ofInt a).toInt >>> n = _
  rw [l_t ha, Int.shiftRight_eq_div_pow]
  norm_cast

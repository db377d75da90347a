/-! VALUES -/
theorem vl_i (k n : Int32) : (vlX k n).toInt = k.toInt * 4294967296 + n.toInt % 4294967296 := by
  have hk1 := Int32.le_toInt k
  have hk2 := Int32.toInt_lt k
  have hn1 := Int32.le_toInt n
  have hn2 := Int32.toInt_lt n
  have e32 : (Int32.toInt64 (32 : Int32) &&& 63) = 32 := by decide
  -- the upper half
  have hu : ((Int32.toInt64 k) <<< (32 : Int64)).toBitVec.toNat = (k.toInt % 4294967296).toNat * 4294967296 := by
    have e : ((32 : Int64).toBitVec.smod 64) = 32#64 := by decide
    rw [Int64.toBitVec_shiftLeft, e, BitVec.shiftLeft_eq', BitVec.toNat_shiftLeft, Nat.shiftLeft_eq]
    have e2 : ((Int32.toInt64 k).toBitVec.toNat : Int) = k.toInt % 18446744073709551616 := by
      have := BitVec.toInt_eq_toNat_cond (Int32.toInt64 k).toBitVec
      have e3 : (Int32.toInt64 k).toBitVec.toInt = k.toInt := Int32.toInt_toInt64 k
      have hb := (Int32.toInt64 k).toBitVec.isLt
      rw [e3] at this
      split at this <;> omega
    show (Int32.toInt64 k).toBitVec.toNat * 2 ^ 32 % 2 ^ 64 = _
    omega
  have hl : ((Int32.toInt64 n) &&& (4294967295 : Int64)).toBitVec.toNat = (n.toInt % 4294967296).toNat := by
    have e2 : ((Int32.toInt64 n).toBitVec.toNat : Int) = n.toInt % 18446744073709551616 := by
      have := BitVec.toInt_eq_toNat_cond (Int32.toInt64 n).toBitVec
      have e3 : (Int32.toInt64 n).toBitVec.toInt = n.toInt := Int32.toInt_toInt64 n
      have hb := (Int32.toInt64 n).toBitVec.isLt
      rw [e3] at this
      split at this <;> omega
    rw [Int64.toBitVec_and, BitVec.toNat_and, show (4294967295 : Int64).toBitVec.toNat = 2 ^ 32 - 1 from rfl, Nat.and_two_pow_sub_one_eq_mod]
    omega
  have ho : (vlX k n).toBitVec.toNat = (k.toInt % 4294967296).toNat * 4294967296 + (n.toInt % 4294967296).toNat := by
    unfold vlX
    rw [e32, Int64.toBitVec_or, BitVec.toNat_or, hu, hl]
    have := Nat.shiftLeft_add_eq_or_of_lt (i := 32) (b := (n.toInt % 4294967296).toNat) (by omega) (k.toInt % 4294967296).toNat
    rw [Nat.shiftLeft_eq] at this
    exact this.symm
  show (vlX k n).toBitVec.toInt = _
  rw [BitVec.toInt_eq_toNat_cond, ho]
  split <;> omega
theorem nm_vl (k n : Int32) : nmV (vlX k n) = n := by
  have hn1 := Int32.le_toInt n
  have hn2 := Int32.toInt_lt n
  unfold nmV
  apply Int32.toInt_inj.mp
  rw [Int64.toInt_toInt32, vl_i, Int.bmod_def]
  omega
theorem kd_vl (k n : Int32) : kdV (vlX k n) = k := by
  have hk1 := Int32.le_toInt k
  have hk2 := Int32.toInt_lt k
  have e32 : (Int32.toInt64 (32 : Int32) &&& 63) = 32 := by decide
  have e2 : ((32 : Int64).toBitVec.smod 64) = 32#64 := by decide
  unfold kdV
  rw [e32]
  have e3 : ((vlX k n) >>> (32 : Int64)).toInt = (vlX k n).toInt >>> 32 := by
    show ((vlX k n) >>> (32 : Int64)).toBitVec.toInt = _
    rw [Int64.toBitVec_shiftRight, e2, BitVec.sshiftRight_eq', BitVec.toInt_sshiftRight]
    rfl
  apply Int32.toInt_inj.mp
  rw [Int64.toInt_toInt32, e3, vl_i, Int.shiftRight_eq_div_pow, Int.bmod_def]
  omega

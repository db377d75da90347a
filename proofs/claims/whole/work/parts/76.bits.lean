/-! SETS AS BITS OF LONGS -/
def tb (x : Int64) (b : Nat) : Bool := x.toBitVec.getLsbD b
theorem tb_or (x y : Int64) (b : Nat) : tb (x ||| y) b = (tb x b || tb y b) := by
  unfold tb
  rw [Int64.toBitVec_or, BitVec.getLsbD_or]
theorem tb_and (x y : Int64) (b : Nat) : tb (x &&& y) b = (tb x b && tb y b) := by
  unfold tb
  rw [Int64.toBitVec_and, BitVec.getLsbD_and]
theorem tb_xor (x y : Int64) (b : Nat) : tb (x ^^^ y) b = (tb x b ^^ tb y b) := by
  unfold tb
  rw [Int64.toBitVec_xor, BitVec.getLsbD_xor]
theorem tb_not (x : Int64) {b : Nat} (h : b < 64) : tb (~~~ x) b = ! tb x b := by
  unfold tb
  rw [Int64.toBitVec_not, BitVec.getLsbD_not]
  simp [h]
theorem tb_0 (b : Nat) : tb 0 b = false := by
  unfold tb
  exact BitVec.getLsbD_zero
theorem tb_m1 {b : Nat} (h : b < 64) : tb (-1) b = true := by
  unfold tb
  rw [show (-1 : Int64).toBitVec = BitVec.allOnes 64 from by decide, BitVec.getLsbD_allOnes]
  simp [h]
theorem tb_ext {x y : Int64} (h : ∀ b, b < 64 → tb x b = tb y b) : x = y := by
  apply Int64.toBitVec_inj.mp
  exact BitVec.eq_of_getLsbD_eq h
theorem tb_eq0 {x : Int64} : x = 0 ↔ ∀ b, b < 64 → tb x b = false := by
  constructor
  · intro h b _
    rw [h]
    exact tb_0 b
  · intro h
    exact tb_ext fun b hb => by rw [h b hb, tb_0]
/-- a count of places to move, as the machine takes it -/
theorem mv_n {n : Nat} (h : n < 2147483648) : Int32.toInt64 (Int32.ofNat n) &&& 63 = Int64.ofNat (n % 64) := by
  have e : Int32.toInt64 (Int32.ofNat n) = Int64.ofNat n := by
    apply Int64.toInt_inj.mp
    rw [Int32.toInt_toInt64, oN_i h, Int64.toInt_ofNat_of_lt (by omega)]
  rw [e]
  apply Int64.toBitVec_inj.mp
  rw [Int64.toBitVec_and]
  apply BitVec.eq_of_toNat_eq
  rw [BitVec.toNat_and, show (63 : Int64).toBitVec = 63#64 from rfl, show (Int64.ofNat n).toBitVec = BitVec.ofNat 64 n from rfl, show (Int64.ofNat (n % 64)).toBitVec = BitVec.ofNat 64 (n % 64) from rfl, BitVec.toNat_ofNat, BitVec.toNat_ofNat, BitVec.toNat_ofNat, Nat.mod_eq_of_lt (show n < 2 ^ 64 by omega), Nat.mod_eq_of_lt (show n % 64 < 2 ^ 64 by omega), show 63 % 2 ^ 64 = 2 ^ 6 - 1 from rfl, Nat.and_two_pow_sub_one_eq_mod]
theorem mv_s : ∀ k : Fin 64, (Int64.ofNat k.val).toBitVec.smod 64 = BitVec.ofNat 64 k.val := by decide +kernel
theorem tb_one {n b : Nat} (h : n < 2147483648) (hb : b < 64) : tb ((1 : Int64) <<< (Int32.toInt64 (Int32.ofNat n) &&& 63)) b = decide (b = n % 64) := by
  rw [mv_n h]
  unfold tb
  rw [Int64.toBitVec_shiftLeft, mv_s ⟨n % 64, Nat.mod_lt _ (by decide)⟩]
  have key : ∀ k c : Fin 64, ((1 : Int64).toBitVec <<< BitVec.ofNat 64 k.val).getLsbD c.val = decide (c.val = k.val) := by decide +kernel
  exact key ⟨n % 64, Nat.mod_lt _ (by decide)⟩ ⟨b, hb⟩
/-- moved right without sign -/
theorem tb_ushr {x : Int64} {n b : Nat} (h : n < 2147483648) : tb ((Int64.toUInt64 x >>> ((Int32.toInt64 (Int32.ofNat n)).toUInt64 &&& Int64.toUInt64 63)).toInt64) b = tb x (n % 64 + b) := by
  have e : (Int32.toInt64 (Int32.ofNat n)).toUInt64 &&& Int64.toUInt64 63 = (Int64.ofNat (n % 64)).toUInt64 := by
    rw [← mv_n h]
    rfl
  rw [e]
  unfold tb
  show ((Int64.toUInt64 x >>> (Int64.ofNat (n % 64)).toUInt64).toBitVec).getLsbD b = _
  rw [UInt64.toBitVec_shiftRight]
  have e2 : ∀ k : Fin 64, ((Int64.ofNat k.val).toUInt64.toBitVec % 64) = BitVec.ofNat 64 k.val := by decide +kernel
  rw [e2 ⟨n % 64, Nat.mod_lt _ (by decide)⟩]
  rw [BitVec.ushiftRight_eq', BitVec.getLsbD_ushiftRight, BitVec.toNat_ofNat, Nat.mod_eq_of_lt (show n % 64 < 2 ^ 64 by omega)]
  rfl
/-- a set of methods, numbered from 1, in two longs -/
def SeIs (x y : Int64) (S : Nat → Bool) : Prop := (∀ b, b < 64 → tb x b = S (b + 1)) ∧ ∀ b, b < 64 → tb y b = S (b + 65)

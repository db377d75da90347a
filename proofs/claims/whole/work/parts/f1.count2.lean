/-! COUNTING BITS: of an int, of a long -/
def bN (x : Int32) : Nat := x.toBitVec.toNat
def bL (x : Int64) : Nat := x.toBitVec.toNat
theorem bN_lt (x : Int32) : bN x < 4294967296 := x.toBitVec.isLt
theorem bL_lt (x : Int64) : bL x < 18446744073709551616 := x.toBitVec.isLt
theorem bN_and (a b : Int32) : bN (a &&& b) = bN a &&& bN b := by
  unfold bN
  rw [Int32.toBitVec_and, BitVec.toNat_and]
theorem bL_and (a b : Int64) : bL (a &&& b) = bL a &&& bL b := by
  unfold bL
  rw [Int64.toBitVec_and, BitVec.toNat_and]
theorem bN_add {a b : Int32} (h : bN a + bN b < 4294967296) : bN (a + b) = bN a + bN b := by
  unfold bN at *
  rw [Int32.toBitVec_add, BitVec.toNat_add]
  omega
theorem bL_add {a b : Int64} (h : bL a + bL b < 18446744073709551616) : bL (a + b) = bL a + bL b := by
  unfold bL at *
  rw [Int64.toBitVec_add, BitVec.toNat_add]
  omega
theorem bN_sub {a b : Int32} (h : bN b ≤ bN a) : bN (a - b) = bN a - bN b := by
  have := bN_lt a
  unfold bN at *
  rw [Int32.toBitVec_sub, BitVec.toNat_sub]
  omega
theorem bL_sub {a b : Int64} (h : bL b ≤ bL a) : bL (a - b) = bL a - bL b := by
  have := bL_lt a
  unfold bL at *
  rw [Int64.toBitVec_sub, BitVec.toNat_sub]
  omega
abbrev sU (k x : Int32) : Int32 := (Int32.toUInt32 x >>> (Int32.toUInt32 k &&& Int32.toUInt32 31)).toInt32
abbrev sV (k : Int32) (x : Int64) : Int64 := (Int64.toUInt64 x >>> ((Int32.toInt64 k).toUInt64 &&& Int64.toUInt64 63)).toInt64
theorem bN_sU {x k : Int32} {s : Nat} (h : ((Int32.toUInt32 k &&& Int32.toUInt32 31).toBitVec % 32).toNat = s) : bN (sU k x) = bN x / 2 ^ s := by
  unfold bN
  show (x.toBitVec >>> ((Int32.toUInt32 k &&& Int32.toUInt32 31).toBitVec % 32)).toNat = _
  rw [BitVec.ushiftRight_eq', h, BitVec.toNat_ushiftRight, Nat.shiftRight_eq_div_pow]
theorem bL_sV {x : Int64} {k : Int32} {s : Nat} (h : (((Int32.toInt64 k).toUInt64 &&& Int64.toUInt64 63).toBitVec % 64).toNat = s) : bL (sV k x) = bL x / 2 ^ s := by
  unfold bL
  show (x.toBitVec >>> (((Int32.toInt64 k).toUInt64 &&& Int64.toUInt64 63).toBitVec % 64)).toNat = _
  rw [BitVec.ushiftRight_eq', h, BitVec.toNat_ushiftRight, Nat.shiftRight_eq_div_pow]
def bc1 (x : Int32) : Int32 := x - (sU 1 x &&& (1431655765 : Int32))
def bc2 (x : Int32) : Int32 := (bc1 x &&& (858993459 : Int32)) + (sU 2 (bc1 x) &&& (858993459 : Int32))
def bc3 (x : Int32) : Int32 := (bc2 x + sU 4 (bc2 x)) &&& (252645135 : Int32)
def bc4 (x : Int32) : Int32 := bc3 x + sU 8 (bc3 x)
def bc5 (x : Int32) : Int32 := bc4 x + sU 16 (bc4 x)
def bl1 (x : Int64) : Int64 := x - (sV 1 x &&& (6148914691236517205 : Int64))
def bl2 (x : Int64) : Int64 := (bl1 x &&& (3689348814741910323 : Int64)) + (sV 2 (bl1 x) &&& (3689348814741910323 : Int64))
def bl3 (x : Int64) : Int64 := (bl2 x + sV 4 (bl2 x)) &&& (1085102592571150095 : Int64)
def bl4 (x : Int64) : Int64 := bl3 x + sV 8 (bl3 x)
def bl5 (x : Int64) : Int64 := bl4 x + sV 16 (bl4 x)
def bl6 (x : Int64) : Int64 := bl5 x + sV 32 (bl5 x)
theorem mpB_lt {g : Nat → Nat} (hg : ∀ a, a < 256 → g a ≤ 68) : ∀ n x, mpB g n x * 3 < 256 ^ n
  | 0, x => by
    rw [mpB]
    decide
  | n + 1, x => by
    have h1 := hg (x % 256) (by omega)
    have h2 := mpB_lt hg n (x / 256)
    rw [mpB, Nat.pow_succ]
    omega
theorem bc_1 (x : Int32) : bN (bc1 x) = mpB pB1 4 (bN x) := by
  have h := sw_1 (n := 4) (x := bN x) (bN_lt x)
  have e : bN (sU 1 x &&& (1431655765 : Int32)) = (bN x / 2) &&& rpB 85 4 := by
    rw [bN_and, bN_sU (s := 1) (by decide)]
    rfl
  unfold bc1
  rw [bN_sub (by rw [e]; exact h.1), e]
  exact h.2
theorem bc_2 (x : Int32) : bN (bc2 x) = mpB pB2 4 (bN x) := by
  have h := sw_2 4 (bN x)
  have lt := mpB_lt (g := pB2) (fun a ha => (pB_b a ha).2.2.1) 4 (bN x)
  have e1 : bN (bc1 x &&& (858993459 : Int32)) = mpB pB1 4 (bN x) &&& rpB 51 4 := by
    rw [bN_and, bc_1]
    rfl
  have e2 : bN (sU 2 (bc1 x) &&& (858993459 : Int32)) = (mpB pB1 4 (bN x) / 4) &&& rpB 51 4 := by
    rw [bN_and, bN_sU (s := 2) (by decide), bc_1]
    rfl
  unfold bc2
  rw [bN_add (by rw [e1, e2, h]; omega), e1, e2, h]
theorem bc_3 (x : Int32) : bN (bc3 x) = mpB pB3 4 (bN x) := by
  have h := sw_3 4 (bN x)
  have lt := mpB_lt (g := pB2) (fun a ha => (pB_b a ha).2.2.1) 4 (bN x)
  have e : bN (sU 4 (bc2 x)) = mpB pB2 4 (bN x) / 16 := by
    rw [bN_sU (s := 4) (by decide), bc_2]
  unfold bc3
  rw [bN_and, bN_add (by rw [e, bc_2]; omega), e, bc_2]
  exact h
/-- Integer.bitCount -/
theorem bc_all (x : Int32) : bc5 x &&& (63 : Int32) = Int32.ofNat (pcN 32 (bN x)) := by
  obtain ⟨h1, h2, h3, h4⟩ := sw_4 (bN x)
  have e4 : bN (bc4 x) = mpB pB3 4 (bN x) + mpB pB3 4 (bN x) / 256 := by
    have e : bN (sU 8 (bc3 x)) = mpB pB3 4 (bN x) / 256 := by
      rw [bN_sU (s := 8) (by decide), bc_3]
    unfold bc4
    rw [bN_add (by rw [e, bc_3]; exact h2), e, bc_3]
  have e5 : bN (bc5 x) = (mpB pB3 4 (bN x) + mpB pB3 4 (bN x) / 256) + (mpB pB3 4 (bN x) + mpB pB3 4 (bN x) / 256) / 65536 := by
    have e : bN (sU 16 (bc4 x)) = (mpB pB3 4 (bN x) + mpB pB3 4 (bN x) / 256) / 65536 := by
      rw [bN_sU (s := 16) (by decide), e4]
    unfold bc5
    rw [bN_add (by rw [e, e4]; exact h3), e, e4]
  have e6 : bN (bc5 x &&& (63 : Int32)) = pcN 32 (bN x) := by
    rw [bN_and, e5, ← h4]
    exact Nat.and_two_pow_sub_one_eq_mod _ 6
  have lt : pcN 32 (bN x) < 64 := by
    rw [← h4]
    omega
  apply Int32.toBitVec_inj.mp
  apply BitVec.eq_of_toNat_eq
  have : (bc5 x &&& (63 : Int32)).toBitVec.toNat = pcN 32 (bN x) := e6
  rw [this]
  show _ = (BitVec.ofNat 32 (pcN 32 (bN x))).toNat
  rw [BitVec.toNat_ofNat]
  omega
theorem bl_1 (x : Int64) : bL (bl1 x) = mpB pB1 8 (bL x) := by
  have h := sw_1 (n := 8) (x := bL x) (bL_lt x)
  have e : bL (sV 1 x &&& (6148914691236517205 : Int64)) = (bL x / 2) &&& rpB 85 8 := by
    rw [bL_and, bL_sV (s := 1) (by decide)]
    rfl
  unfold bl1
  rw [bL_sub (by rw [e]; exact h.1), e]
  exact h.2
theorem bl_2 (x : Int64) : bL (bl2 x) = mpB pB2 8 (bL x) := by
  have h := sw_2 8 (bL x)
  have lt := mpB_lt (g := pB2) (fun a ha => (pB_b a ha).2.2.1) 8 (bL x)
  have e1 : bL (bl1 x &&& (3689348814741910323 : Int64)) = mpB pB1 8 (bL x) &&& rpB 51 8 := by
    rw [bL_and, bl_1]
    rfl
  have e2 : bL (sV 2 (bl1 x) &&& (3689348814741910323 : Int64)) = (mpB pB1 8 (bL x) / 4) &&& rpB 51 8 := by
    rw [bL_and, bL_sV (s := 2) (by decide), bl_1]
    rfl
  unfold bl2
  rw [bL_add (by rw [e1, e2, h]; omega), e1, e2, h]
theorem bl_3 (x : Int64) : bL (bl3 x) = mpB pB3 8 (bL x) := by
  have h := sw_3 8 (bL x)
  have lt := mpB_lt (g := pB2) (fun a ha => (pB_b a ha).2.2.1) 8 (bL x)
  have e : bL (sV 4 (bl2 x)) = mpB pB2 8 (bL x) / 16 := by
    rw [bL_sV (s := 4) (by decide), bl_2]
  unfold bl3
  rw [bL_and, bL_add (by rw [e, bl_2]; omega), e, bl_2]
  exact h
/-- Long.bitCount -/
theorem bl_all (x : Int64) : Int64.toInt32 (bl6 x) &&& (127 : Int32) = Int32.ofNat (pcN 64 (bL x)) := by
  obtain ⟨h1, h2, h3, h5, h4⟩ := sw_8 (bL x)
  have e4 : bL (bl4 x) = mpB pB3 8 (bL x) + mpB pB3 8 (bL x) / 256 := by
    have e : bL (sV 8 (bl3 x)) = mpB pB3 8 (bL x) / 256 := by
      rw [bL_sV (s := 8) (by decide), bl_3]
    unfold bl4
    rw [bL_add (by rw [e, bl_3]; exact h2), e, bl_3]
  have e5 : bL (bl5 x) = (mpB pB3 8 (bL x) + mpB pB3 8 (bL x) / 256) + (mpB pB3 8 (bL x) + mpB pB3 8 (bL x) / 256) / 65536 := by
    have e : bL (sV 16 (bl4 x)) = (mpB pB3 8 (bL x) + mpB pB3 8 (bL x) / 256) / 65536 := by
      rw [bL_sV (s := 16) (by decide), e4]
    unfold bl5
    rw [bL_add (by rw [e, e4]; exact h3), e, e4]
  have e6 : bL (bl6 x) = ((mpB pB3 8 (bL x) + mpB pB3 8 (bL x) / 256) + (mpB pB3 8 (bL x) + mpB pB3 8 (bL x) / 256) / 65536) + ((mpB pB3 8 (bL x) + mpB pB3 8 (bL x) / 256) + (mpB pB3 8 (bL x) + mpB pB3 8 (bL x) / 256) / 65536) / 4294967296 := by
    have e : bL (sV 32 (bl5 x)) = ((mpB pB3 8 (bL x) + mpB pB3 8 (bL x) / 256) + (mpB pB3 8 (bL x) + mpB pB3 8 (bL x) / 256) / 65536) / 4294967296 := by
      rw [bL_sV (s := 32) (by decide), e5]
    unfold bl6
    rw [bL_add (by rw [e, e5]; exact h5), e, e5]
  rw [← e6] at h4
  have lt : pcN 64 (bL x) < 128 := by
    rw [← h4]
    omega
  have e7 : bN (Int64.toInt32 (bl6 x) &&& (127 : Int32)) = pcN 64 (bL x) := by
    rw [bN_and]
    have e8 : bN (Int64.toInt32 (bl6 x)) = bL (bl6 x) % 4294967296 := by
      unfold bN bL
      rw [Int64.toBitVec_toInt32, BitVec.signExtend_eq_setWidth_of_le _ (by decide), BitVec.toNat_setWidth]
    rw [e8]
    have e9 : (bL (bl6 x) % 4294967296) &&& bN (127 : Int32) = (bL (bl6 x) % 4294967296) % 128 := Nat.and_two_pow_sub_one_eq_mod _ 7
    rw [e9, ← h4]
    omega
  apply Int32.toBitVec_inj.mp
  apply BitVec.eq_of_toNat_eq
  have : (Int64.toInt32 (bl6 x) &&& (127 : Int32)).toBitVec.toNat = pcN 64 (bL x) := e7
  rw [this]
  show _ = (BitVec.ofNat 32 (pcN 64 (bL x))).toNat
  rw [BitVec.toNat_ofNat]
  omega
section CNT
variable {Z : zT} {d : Nat} {σ : Sg} {K : kS}
theorem cl_bitI {x : Int32} (F : FX ΦC σ.sh σ.r) (k : K (.inl (some (.int (Int32.ofNat (pcN 32 (bN x)))))) σ) : C_J6_bitCount_0f7a4_0 Z (d + 1) σ x K := by
  refine T_J6_bitCount_0f7a4_0 F ?_
  show K (.inl (some (.int (bc5 x &&& (63 : Int32))))) σ
  rw [bc_all]
  exact k
theorem cl_bitL {x : Int64} (F : FX ΦC σ.sh σ.r) (k : K (.inl (some (.int (Int32.ofNat (pcN 64 (bL x)))))) σ) : C_J13_bitCount_95d88_0 Z (d + 1) σ x K := by
  refine T_J13_bitCount_95d88_0 F ?_
  show K (.inl (some (.int (Int64.toInt32 (bl6 x) &&& (127 : Int32))))) σ
  rw [bl_all]
  exact k
end CNT

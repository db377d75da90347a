/-! THE CLASS: the lowest bit -/
def tzP (y : Int32) : Int32 := if 0 < y then
    let a := if y ≤ 65536 then (y, (1 : Int32)) else ((Int32.toUInt32 y >>> (Int32.toUInt32 (16 : Int32) &&& Int32.toUInt32 31)).toInt32, 1 + 16)
    let b := if a.1 ≤ 256 then a else ((Int32.toUInt32 a.1 >>> (Int32.toUInt32 (8 : Int32) &&& Int32.toUInt32 31)).toInt32, a.2 + 8)
    let c := if b.1 ≤ 16 then b else ((Int32.toUInt32 b.1 >>> (Int32.toUInt32 (4 : Int32) &&& Int32.toUInt32 31)).toInt32, b.2 + 4)
    if c.1 ≤ 4 then c.2 + ((Int32.toUInt32 c.1 >>> (Int32.toUInt32 (1 : Int32) &&& Int32.toUInt32 31)).toInt32) else (c.2 + 2) + ((Int32.toUInt32 ((Int32.toUInt32 c.1 >>> (Int32.toUInt32 (2 : Int32) &&& Int32.toUInt32 31)).toInt32) >>> (Int32.toUInt32 (1 : Int32) &&& Int32.toUInt32 31)).toInt32)
  else y &&& (32 : Int32)
theorem tz_32 : ∀ t : Fin 32, tzP (Int32.ofNat (2 ^ t.val - 1)) = Int32.ofNat t.val := by decide +kernel
theorem tz_n {n t w : Nat} (hn : n < 2 ^ w) (h1 : n.testBit t = true) (h2 : ∀ b, b < t → n.testBit b = false) : ∃ q, n = 2 ^ (t + 1) * q + 2 ^ t := by
  refine ⟨n / 2 ^ (t + 1), ?_⟩
  have e := Nat.div_add_mod n (2 ^ (t + 1))
  have m : n % 2 ^ (t + 1) = 2 ^ t := by
    refine Nat.eq_of_testBit_eq (fun b => ?_)
    rw [Nat.testBit_mod_two_pow, Nat.testBit_two_pow]
    by_cases q : b < t
    · rw [h2 b q, Bool.and_false, decide_eq_false (by omega)]
    · by_cases q2 : b = t
      · subst q2
        rw [h1, decide_eq_true (by omega), decide_eq_true rfl]
        rfl
      · rw [decide_eq_false (by omega), Bool.false_and, decide_eq_false (by omega)]
  omega
/-- what is below the lowest bit; and without it -/
theorem tz_b {n t q w b : Nat} (e : n = 2 ^ (t + 1) * q + 2 ^ t) (hn : n < 2 ^ w) (hb : b < w) : ((2 ^ w - 1 - n).testBit b && (n - 1).testBit b) = decide (b < t) ∧ (n.testBit b && (n - 1).testBit b) = (n.testBit b && decide (b ≠ t)) := by
  have p1 : 1 ≤ 2 ^ t := Nat.one_le_two_pow
  have p2 : 2 ^ (t + 1) = 2 * 2 ^ t := by rw [Nat.pow_succ]; omega
  have c1 : (2 ^ w - 1 - n).testBit b = !n.testBit b := by
    have := Nat.testBit_two_pow_sub_succ hn b
    rw [show 2 ^ w - 1 - n = 2 ^ w - (n + 1) by omega, this, decide_eq_true hb, Bool.true_and]
  have c2 : n.testBit b = if b < t + 1 then (2 ^ t).testBit b else q.testBit (b - (t + 1)) := by
    rw [e]
    exact Nat.testBit_two_pow_mul_add q (by omega) b
  have c3 : (n - 1).testBit b = if b < t + 1 then (2 ^ t - 1).testBit b else q.testBit (b - (t + 1)) := by
    rw [e, show 2 ^ (t + 1) * q + 2 ^ t - 1 = 2 ^ (t + 1) * q + (2 ^ t - 1) by omega]
    exact Nat.testBit_two_pow_mul_add q (by omega) b
  rw [Nat.testBit_two_pow] at c2
  rw [Nat.testBit_two_pow_sub_one] at c3
  rw [c1, c2, c3]
  by_cases l1 : b < t
  · rw [if_pos (by omega), if_pos (by omega), decide_eq_false (show ¬ t = b by omega), decide_eq_true l1]
    exact ⟨rfl, rfl⟩
  · by_cases l2 : b = t
    · subst l2
      rw [if_pos (by omega), if_pos (by omega), decide_eq_true rfl, decide_eq_false l1, decide_eq_false (fun z => z rfl)]
      exact ⟨rfl, rfl⟩
    · rw [if_neg (by omega), if_neg (by omega), decide_eq_false l1, decide_eq_true l2]
      cases q.testBit (b - (t + 1)) <;> exact ⟨rfl, rfl⟩
theorem tz_y {x : Int32} {t : Nat} (ht : t < 32) (h1 : x.toBitVec.toNat.testBit t = true) (h2 : ∀ b, b < t → x.toBitVec.toNat.testBit b = false) : (x ^^^ (-1 : Int32)) &&& (x - (1 : Int32)) = Int32.ofNat (2 ^ t - 1) := by
  obtain ⟨q, e⟩ := tz_n x.toBitVec.isLt h1 h2
  have p1 : 1 ≤ 2 ^ t := Nat.one_le_two_pow
  have pw : 2 ^ t ≤ 2 ^ 31 := Nat.pow_le_pow_right (by decide) (by omega)
  have n1 : 1 ≤ x.toBitVec.toNat := by omega
  apply Int32.toBitVec_inj.mp
  rw [Int32.toBitVec_and, Int32.toBitVec_xor, Int32.toBitVec_sub, oN_bv]
  apply BitVec.eq_of_toNat_eq
  rw [BitVec.toNat_and, BitVec.toNat_xor, BitVec.toNat_sub_of_le (by exact n1), BitVec.toNat_ofNat, Nat.mod_eq_of_lt (show 2 ^ t - 1 < 2 ^ 32 by omega)]
  have lx := x.toBitVec.isLt
  rw [show (1 : Int32).toBitVec.toNat = 1 from rfl, show (-1 : Int32).toBitVec.toNat = 2 ^ 32 - 1 from rfl]
  refine Nat.eq_of_testBit_eq (fun b => ?_)
  rw [Nat.testBit_and, Nat.testBit_xor, Nat.testBit_two_pow_sub_one, Nat.testBit_two_pow_sub_one]
  by_cases hb : b < 32
  · have := (tz_b (w := 32) e lx hb).1
    rw [← this]
    congr 1
    have := Nat.testBit_two_pow_sub_succ lx b
    rw [show 2 ^ 32 - 1 - x.toBitVec.toNat = 2 ^ 32 - (x.toBitVec.toNat + 1) by omega, this, decide_eq_true hb]
    cases x.toBitVec.toNat.testBit b <;> rfl
  · rw [Nat.testBit_lt_two_pow (x := x.toBitVec.toNat - 1) (Nat.lt_of_lt_of_le (show x.toBitVec.toNat - 1 < 2 ^ 32 by omega) (Nat.pow_le_pow_right (by decide) (by omega))), Bool.and_false, decide_eq_false (by omega)]
section TZ
variable {Z : zT} {d : Nat} {σ : Sg} {K : kS}
theorem tz_run {x y : Int32} (F : FX ΦC σ.sh σ.r) (e : (x ^^^ (-1 : Int32)) &&& (x - (1 : Int32)) = y) (k : K (.inl (some (.int (tzP y)))) σ) : C_J6_numberOfTrailingZeros_0f7a4_0 Z (d + 1) σ x K := by
  refine T_J6_numberOfTrailingZeros_0f7a4_0 F ?_
  rw [e]
  unfold tzP at k
  have s62 : ∀ c : Int32 × Int32, K (.inl (some (.int (if c.1 ≤ 4 then c.2 + ((Int32.toUInt32 c.1 >>> (Int32.toUInt32 (1 : Int32) &&& Int32.toUInt32 31)).toInt32) else (c.2 + 2) + ((Int32.toUInt32 ((Int32.toUInt32 c.1 >>> (Int32.toUInt32 (2 : Int32) &&& Int32.toUInt32 31)).toInt32) >>> (Int32.toUInt32 (1 : Int32) &&& Int32.toUInt32 31)).toInt32))))) σ → C_J6_numberOfTrailingZeros_0f7a4_62 Z (d + 1) σ c.1 c.2 K := fun c k => by
    refine T_J6_numberOfTrailingZeros_0f7a4_62 F ⟨fun z => ?_, fun z => ?_⟩
    · rw [if_pos z] at k
      exact k
    · rw [if_neg z] at k
      exact k
  refine ⟨fun z => ?_, fun z => ?_⟩
  · rw [if_pos z] at k
    dsimp only at k
    have s49 : ∀ b : Int32 × Int32, K (.inl (some (.int (if (if b.1 ≤ 16 then b else ((Int32.toUInt32 b.1 >>> (Int32.toUInt32 (4 : Int32) &&& Int32.toUInt32 31)).toInt32, b.2 + 4)).1 ≤ 4 then (if b.1 ≤ 16 then b else ((Int32.toUInt32 b.1 >>> (Int32.toUInt32 (4 : Int32) &&& Int32.toUInt32 31)).toInt32, b.2 + 4)).2 + ((Int32.toUInt32 (if b.1 ≤ 16 then b else ((Int32.toUInt32 b.1 >>> (Int32.toUInt32 (4 : Int32) &&& Int32.toUInt32 31)).toInt32, b.2 + 4)).1 >>> (Int32.toUInt32 (1 : Int32) &&& Int32.toUInt32 31)).toInt32) else ((if b.1 ≤ 16 then b else ((Int32.toUInt32 b.1 >>> (Int32.toUInt32 (4 : Int32) &&& Int32.toUInt32 31)).toInt32, b.2 + 4)).2 + 2) + ((Int32.toUInt32 ((Int32.toUInt32 (if b.1 ≤ 16 then b else ((Int32.toUInt32 b.1 >>> (Int32.toUInt32 (4 : Int32) &&& Int32.toUInt32 31)).toInt32, b.2 + 4)).1 >>> (Int32.toUInt32 (2 : Int32) &&& Int32.toUInt32 31)).toInt32) >>> (Int32.toUInt32 (1 : Int32) &&& Int32.toUInt32 31)).toInt32))))) σ → C_J6_numberOfTrailingZeros_0f7a4_49 Z (d + 1) σ b.1 b.2 K := fun b k => by
      refine T_J6_numberOfTrailingZeros_0f7a4_49 F ⟨fun z => ?_, fun z => ?_⟩
      · rw [if_pos z] at k
        exact s62 _ k
      · rw [if_neg z] at k
        exact s62 (_, _) k
    have s34 : ∀ a : Int32 × Int32, (a = if y ≤ 65536 then (y, (1 : Int32)) else ((Int32.toUInt32 y >>> (Int32.toUInt32 (16 : Int32) &&& Int32.toUInt32 31)).toInt32, 1 + 16)) → C_J6_numberOfTrailingZeros_0f7a4_34 Z (d + 1) σ a.1 a.2 K := fun a ea => by
      rw [← ea] at k
      refine T_J6_numberOfTrailingZeros_0f7a4_34 F ⟨fun z => ?_, fun z => ?_⟩
      · rw [if_pos z] at k
        exact s49 _ k
      · rw [if_neg z] at k
        exact s49 (_, _) k
    refine ⟨fun z2 => s34 (y, 1) ?_, fun z2 => s34 (_, 1 + 16) ?_⟩
    · rw [if_pos z2]
    · rw [if_neg z2]
      rfl
  · rw [if_neg z] at k
    exact k
/-- Long.numberOfTrailingZeros -/
theorem cl_tz {x : Int64} {t : Nat} (F : FX ΦC σ.sh σ.r) (ht : t < 64) (h1 : tb x t = true) (h2 : ∀ b, b < t → tb x b = false) (k : K (.inl (some (.int (Int32.ofNat t)))) σ) : C_J13_numberOfTrailingZeros_95d88_0 Z (d + 2) σ x K := by
  have lo : ∀ b, b < 32 → (Int64.toInt32 x).toBitVec.toNat.testBit b = tb x b := fun b hb => by
    show ((Int64.toInt32 x).toBitVec).getLsbD b = _
    rw [Int64.toBitVec_toInt32, BitVec.getLsbD_signExtend, decide_eq_true hb, Bool.true_and, if_pos (by omega)]
    rfl
  have hi : ∀ b, b < 32 → (Int64.toInt32 ((Int64.toUInt64 x >>> ((Int32.toInt64 (32 : Int32)).toUInt64 &&& Int64.toUInt64 63)).toInt64)).toBitVec.toNat.testBit b = tb x (32 + b) := fun b hb => by
    have : tb ((Int64.toUInt64 x >>> ((Int32.toInt64 (32 : Int32)).toUInt64 &&& Int64.toUInt64 63)).toInt64) b = tb x (32 + b) := tb_ushr (n := 32) (by decide)
    rw [← this]
    show ((Int64.toInt32 ((Int64.toUInt64 x >>> ((Int32.toInt64 (32 : Int32)).toUInt64 &&& Int64.toUInt64 63)).toInt64)).toBitVec).getLsbD b = _
    rw [Int64.toBitVec_toInt32, BitVec.getLsbD_signExtend, decide_eq_true hb, Bool.true_and, if_pos (by omega)]
    rfl
  refine T_J13_numberOfTrailingZeros_95d88_0 F ⟨fun z => ?_, fun z => ?_⟩
  · have t32 : t < 32 := Nat.lt_of_not_le fun q => by
      apply z
      apply Int32.toBitVec_inj.mp
      apply BitVec.eq_of_toNat_eq
      refine Nat.eq_of_testBit_eq (fun b => ?_)
      rw [show (0 : Int32).toBitVec.toNat = 0 from rfl, Nat.zero_testBit]
      by_cases hb : b < 32
      · rw [lo b hb]
        exact h2 b (by omega)
      · exact Nat.testBit_lt_two_pow (Nat.lt_of_lt_of_le (Int64.toInt32 x).toBitVec.isLt (Nat.pow_le_pow_right (by decide) (by omega)))
    refine tz_run F (tz_y t32 (by rw [lo t t32]; exact h1) (fun b hb => by rw [lo b (by omega)]; exact h2 b hb)) ?_
    rw [tz_32 ⟨t, t32⟩]
    exact k
  · have t32 : 32 ≤ t := Nat.le_of_not_lt fun q => by
      have := lo t q
      rw [z, h1, show (0 : Int32).toBitVec.toNat = 0 from rfl, Nat.zero_testBit] at this
      cases this
    have e : t = 32 + (t - 32) := by omega
    refine tz_run F (tz_y (t := t - 32) (by omega) (by rw [hi _ (by omega), ← e]; exact h1) (fun b hb => by rw [hi b (by omega)]; exact h2 _ (by omega))) ?_
    rw [tz_32 ⟨t - 32, by omega⟩]
    show K (.inl (some (.int ((32 : Int32) + Int32.ofNat (t - 32))))) σ
    rw [show (32 : Int32) = Int32.ofNat 32 from rfl, oN_add, ← e]
    exact k
end TZ
/-- without the lowest bit -/
theorem tz_and {x : Int64} {t : Nat} (ht : t < 64) (h1 : tb x t = true) (h2 : ∀ b, b < t → tb x b = false) {b : Nat} (hb : b < 64) : tb (x &&& (x - (1 : Int64))) b = (tb x b && decide (b ≠ t)) := by
  obtain ⟨q, e⟩ := tz_n (n := x.toBitVec.toNat) x.toBitVec.isLt h1 h2
  have n1 : 1 ≤ x.toBitVec.toNat := by
    have p1 : 1 ≤ 2 ^ t := Nat.one_le_two_pow
    omega
  have es : tb (x - (1 : Int64)) b = (x.toBitVec.toNat - 1).testBit b := by
    show (x - (1 : Int64)).toBitVec.toNat.testBit b = _
    rw [Int64.toBitVec_sub, BitVec.toNat_sub_of_le (by exact n1)]
    rfl
  rw [tb_and, es]
  exact (tz_b (w := 64) e x.toBitVec.isLt hb).2
/-- the bits, from the lowest on -/
theorem tz_list {p p' : Nat → Bool} {t n : Nat} (ht : t < n) (h1 : p t = true) (h2 : ∀ b, b < t → p b = false) (h3 : ∀ b, b < n → p' b = (p b && decide (b ≠ t))) : (List.range n).filter p = t :: (List.range n).filter p' := by
  have e : List.range n = List.range t ++ ([t] ++ (List.range (n - t - 1)).map (t + 1 + ·)) := by
    rw [show n = t + (1 + (n - t - 1)) by omega, List.range_add, List.range_add, List.map_append]
    congr 2
    rw [List.map_map]
    rw [show t + (1 + (n - t - 1)) - t - 1 = n - t - 1 by omega]
    congr 1
    funext i
    show t + (1 + i) = t + 1 + i
    omega
  have a1 : (List.range t).filter p = [] := List.filter_eq_nil_iff.mpr (fun b hb => by rw [h2 b (List.mem_range.mp hb)]; exact Bool.false_ne_true)
  have a2 : (List.range t).filter p' = [] := List.filter_eq_nil_iff.mpr (fun b hb => by
    have hb := List.mem_range.mp hb
    rw [h3 b (by omega), h2 b hb]
    exact Bool.false_ne_true)
  have a3 : ((List.range (n - t - 1)).map (t + 1 + ·)).filter p' = ((List.range (n - t - 1)).map (t + 1 + ·)).filter p := List.filter_congr (fun b hb => by
    obtain ⟨i, hi, rfl⟩ := List.mem_map.mp hb
    have hi := List.mem_range.mp hi
    rw [h3 _ (by omega), decide_eq_true (by omega), Bool.and_true])
  rw [e, List.filter_append, List.filter_append, List.filter_append, List.filter_append, a1, a2, a3, List.filter_cons_of_pos h1, List.filter_cons_of_neg (by rw [h3 t ht, decide_eq_false (fun z => z rfl), Bool.and_false]; exact Bool.false_ne_true)]
  rfl

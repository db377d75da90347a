/-! NUMBERS: ints that are small naturals -/
theorem oN_i {n : Nat} (h : n < 2147483648) : (Int32.ofNat n).toInt = n := Int32.toInt_ofNat_of_lt (by simpa using h)
theorem oN_t {n : Nat} (h : n < 2147483648) : (Int32.ofNat n).toNatClampNeg = n := by
  show (Int32.ofNat n).toInt.toNat = n
  rw [oN_i h]
  rfl
theorem oN_add (a b : Nat) : Int32.ofNat a + Int32.ofNat b = Int32.ofNat (a + b) := (Int32.ofNat_add a b).symm
theorem oN_1 (a : Nat) : Int32.ofNat a + 1 = Int32.ofNat (a + 1) := (Int32.ofNat_add a 1).symm
theorem oN_le {a b : Nat} (ha : a < 2147483648) (hb : b < 2147483648) : Int32.ofNat a ≤ Int32.ofNat b ↔ a ≤ b := by
  rw [Int32.le_iff_toInt_le, oN_i ha, oN_i hb]
  omega
theorem oN_lt {a b : Nat} (ha : a < 2147483648) (hb : b < 2147483648) : Int32.ofNat a < Int32.ofNat b ↔ a < b := by
  rw [Int32.lt_iff_toInt_lt, oN_i ha, oN_i hb]
  omega
theorem oN_eq {a b : Nat} (ha : a < 2147483648) (hb : b < 2147483648) : Int32.ofNat a = Int32.ofNat b ↔ a = b := by
  constructor
  · intro h
    have := congrArg Int32.toInt h
    rw [oN_i ha, oN_i hb] at this
    omega
  · intro h
    rw [h]
theorem ib_oN {k n : Nat} (h : k < n) (hn : n ≤ 2147483648) : ib (Int32.ofNat k) n := by
  refine ⟨?_, ?_⟩
  · rw [Int32.lt_iff_toInt_lt, oN_i (by omega)]
    show ¬ (k : Int) < 0
    omega
  · rw [oN_t (by omega)]
    exact h
theorem ib_i {x : Int32} {n : Nat} (h0 : 0 ≤ x.toInt) (h : x.toInt < n) : ib x n := by
  refine ⟨?_, ?_⟩
  · rw [Int32.lt_iff_toInt_lt]
    show ¬ x.toInt < 0
    omega
  · show x.toInt.toNat < n
    omega
theorem i_oN {x : Int32} (h : 0 ≤ x.toInt) : x = Int32.ofNat x.toInt.toNat := by
  have h2 := x.toInt_lt
  rw [← Int32.toInt_inj, oN_i (by omega)]
  omega
/-- a number written where it stands -/
theorem up_id {α : Type} (f : Nat → Nat → α) (a k : Nat) : up f a k (f a k) = f := by
  funext b j
  unfold up
  split
  · rename_i h
    rw [h.1, h.2]
  · rfl
theorem wi_id (σ : Sg) (a k : Nat) : σ.wi a k (σ.i a k) = σ := by
  show (σ.sh, up σ.i a k (σ.i a k), σ.l, σ.r) = σ
  rw [up_id]
theorem up_up {α : Type} (f : Nat → Nat → α) (a k : Nat) (v w : α) : up (up f a k v) a k w = up f a k w := by
  funext b j
  unfold up
  split <;> rfl
theorem up_cm {α : Type} {f : Nat → Nat → α} {a k b j : Nat} {v w : α} (h : ¬ (a = b ∧ k = j)) : up (up f a k v) b j w = up (up f b j w) a k v := by
  funext c l
  unfold up
  by_cases h1 : c = b ∧ l = j
  · rw [if_pos h1, if_neg (fun q => h ⟨by rw [← q.1, h1.1], by rw [← q.2, h1.2]⟩), if_pos h1]
  · rw [if_neg h1, if_neg h1]

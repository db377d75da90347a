/-! BOUNDS ON DIFFERENCES of four numbers (the first is 0): closed tables have solutions -/
def dCl (D : Nat → Nat → Int) : Prop := (∀ i, i < 4 → D i i = 0) ∧ ∀ i j k, i < 4 → j < 4 → k < 4 → D i k ≤ D i j + D j k
def dSo (D : Nat → Nat → Int) (x : Nat → Int) : Prop := ∀ i j, i < 4 → j < 4 → x i - x j ≤ D i j
/-- one bound more: x a - x b is at most c -/
def dUp (D : Nat → Nat → Int) (a b : Nat) (c : Int) : Nat → Nat → Int := fun i j => if D i a + c + D b j < D i j then D i a + c + D b j else D i j
theorem dUp_cl {D : Nat → Nat → Int} {a b : Nat} {c : Int} (h : dCl D) (ha : a < 4) (hb : b < 4) (hc : 0 ≤ D b a + c) : dCl (dUp D a b c) := by
  obtain ⟨h1, h2⟩ := h
  refine ⟨fun i hi => ?_, fun i j k hi hj hk => ?_⟩
  · unfold dUp
    have e1 := h1 i hi
    have e2 := h2 b i a hb hi ha
    split <;> omega
  · unfold dUp
    have e1 := h2 i j k hi hj hk
    have e2 := h2 i j a hi hj ha
    have e3 := h2 b j k hb hj hk
    have e4 := h2 b j a hb hj ha
    split <;> split <;> split <;> omega
theorem dUp_so {D : Nat → Nat → Int} {a b : Nat} {c : Int} {x : Nat → Int} (h : dCl D) (ha : a < 4) (hb : b < 4) : dSo (dUp D a b c) x ↔ dSo D x ∧ x a - x b ≤ c := by
  constructor
  · intro g
    refine ⟨fun i j hi hj => ?_, ?_⟩
    · have := g i j hi hj
      unfold dUp at this
      split at this <;> omega
    · have := g a b ha hb
      unfold dUp at this
      have e1 := h.1 a ha
      have e2 := h.1 b hb
      split at this <;> omega
  · rintro ⟨g, gc⟩ i j hi hj
    unfold dUp
    have e1 := g i j hi hj
    have e2 := g i a hi ha
    have e3 := g b j hb hj
    split <;> omega
theorem dCl_so {D : Nat → Nat → Int} (h : dCl D) : dSo D (fun k => D k 0) ∧ D 0 0 = 0 := by
  refine ⟨fun i j hi hj => ?_, h.1 0 (by decide)⟩
  have := h.2 i j 0 hi hj (by decide)
  show D i 0 - D j 0 ≤ D i j
  omega
theorem d_no {D : Nat → Nat → Int} {a b : Nat} {c : Int} {x : Nat → Int} (ha : a < 4) (hb : b < 4) (hc : ¬ 0 ≤ D b a + c) (h : dSo D x) : ¬ x a - x b ≤ c := by
  have := h b a hb ha
  omega
/-- what all numbers keep: the first is 0, the others are ints -/
def d0 : Nat → Nat → Int := fun i j => if i = j then 0 else (if i = 0 then 0 else 2147483647) + (if j = 0 then 0 else 2147483648)
theorem d0_cl : dCl d0 := by
  refine ⟨fun i hi => by unfold d0; rw [if_pos rfl], fun i j k hi hj hk => ?_⟩
  unfold d0
  repeat' split
  all_goals omega
theorem d0_so {x : Nat → Int} (h0 : x 0 = 0) : dSo d0 x ↔ ∀ k, 1 ≤ k → k < 4 → -2147483648 ≤ x k ∧ x k ≤ 2147483647 := by
  constructor
  · intro h k h1 h2
    have e1 := h k 0 h2 (by decide)
    have e2 := h 0 k (by decide) h2
    unfold d0 at e1 e2
    rw [if_neg (by omega), if_neg (by omega), if_pos rfl] at e1
    rw [if_neg (by omega), if_pos rfl, if_neg (by omega)] at e2
    omega
  · intro h i j hi hj
    unfold d0
    by_cases e : i = j
    · subst e
      rw [if_pos rfl]
      omega
    · rw [if_neg e]
      by_cases i0 : i = 0
      · subst i0
        have := h j (by omega) hj
        rw [if_pos rfl, if_neg (fun z => e z.symm)]
        omega
      · have e1 := h i (by omega) hi
        by_cases j0 : j = 0
        · subst j0
          rw [if_neg i0, if_pos rfl]
          omega
        · have e2 := h j (by omega) hj
          rw [if_neg i0, if_neg j0]
          omega
/-- the in-place way: what is read while the table is written is what stood there -/
theorem dUp_row {D : Nat → Nat → Int} {a b : Nat} {c : Int} (hc : 0 ≤ D b a + c) (i : Nat) : dUp D a b c i a = D i a := by
  unfold dUp
  rw [if_neg (by omega)]
theorem dUp_col {D : Nat → Nat → Int} {a b : Nat} {c : Int} (hc : 0 ≤ D b a + c) (j : Nat) : dUp D a b c b j = D b j := by
  unfold dUp
  rw [if_neg (by omega)]

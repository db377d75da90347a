/-! THE CLASS: the columns of a truth table -/
theorem xJ_2 : ∀ j, j < 6 → xJ1 2 (Int32.ofNat j) (trN j) := by
  intro j hj
  have : j = 0 ∨ j = 1 ∨ j = 2 ∨ j = 3 ∨ j = 4 ∨ j = 5 := by omega
  unfold xJ1
  rcases this with rfl | rfl | rfl | rfl | rfl | rfl <;> rfl

/-! SIGNS BY NUMBERS (those of the class): 0 end, 1 none, 2 name, 3 number, 4 .. 17 signs, 20 .. 52 words -/
def mkL2 : List (Int32 × Nat) := [(40, 4), (41, 5), (44, 6), (59, 7), (58, 8), (43, 9), (45, 10), (42, 11), (47, 12), (35, 13), (61, 14), (60, 15), (317, 16), (316, 17)]
def mkC (v : Int32) : Nat := match mkL2.find? (fun q => q.1 == v) with
  | some q => q.2
  | none => 18
def wdL : List (Nat × Nat) := [(118, 25), (120, 30), (122, 36), (124, 37), (126, 21), (128, 26), (130, 27), (132, 34), (134, 22), (136, 47), (138, 40), (140, 44), (142, 50), (144, 28), (146, 29), (148, 33), (150, 20), (152, 23), (154, 38), (156, 39), (158, 42), (160, 24), (162, 32), (164, 41), (166, 52), (168, 31), (170, 49), (172, 35), (174, 51), (176, 43), (178, 48), (180, 45), (182, 46)]
def wdC : Rf → Nat
  | some (.inr j) => match wdL.find? (fun q => q.1 == j) with
    | some q => q.2
    | none => 19
  | _ => 19
def tyS (t : Nat → Int32) (n p : Nat) : Nat := if soS t n p = 0 then 0 else if soS t n p = 5 then 1 else if soS t n p = 2 then 2 else if soS t n p = 3 then 3 else if soS t n p = 4 then mkC (vaS t n p) else wdC (wdJ t p (lnS t n p))
theorem mkL2_i : ∀ q ∈ mkL2, ∀ q' ∈ mkL2, q.2 = q'.2 → q = q' := by decide
theorem mkL2_c : ∀ q ∈ mkL2, mkC q.1 = q.2 ∧ 4 ≤ q.2 ∧ q.2 ≤ 17 := by decide
theorem wdL_i : ∀ q ∈ wdL, ∀ q' ∈ wdL, q.2 = q'.2 → q = q' := by decide +kernel
theorem wdL_c : ∀ q ∈ wdL, wdC (Rf.old q.1) = q.2 ∧ 20 ≤ q.2 ∧ q.2 ≤ 52 ∧ q.1 ∈ stE := by decide +kernel
theorem mkC_or (v : Int32) : mkC v = 18 ∨ ∃ q ∈ mkL2, q.1 = v ∧ mkC v = q.2 := by
  unfold mkC
  cases e : mkL2.find? (fun q => q.1 == v) with
  | none => exact Or.inl rfl
  | some q => exact Or.inr ⟨q, List.mem_of_find?_eq_some e, eq_of_beq (List.find?_some (p := fun q : Int32 × Nat => q.1 == v) e), rfl⟩
theorem wdC_or (x : Rf) : wdC x = 19 ∨ ∃ q ∈ wdL, x = Rf.old q.1 ∧ wdC x = q.2 := by
  rcases x with _ | a | j
  · exact Or.inl rfl
  · exact Or.inl rfl
  · have h : wdC (Rf.old j) = match wdL.find? (fun q => q.1 == j) with
      | some q => q.2
      | none => 19 := rfl
    show wdC (Rf.old j) = 19 ∨ ∃ q ∈ wdL, Rf.old j = Rf.old q.1 ∧ wdC (Rf.old j) = q.2
    rw [h]
    cases e : wdL.find? (fun q => q.1 == j) with
    | none => exact Or.inl rfl
    | some q => exact Or.inr ⟨q, List.mem_of_find?_eq_some e, by rw [show q.1 = j from eq_of_beq (List.find?_some (p := fun q : Nat × Nat => q.1 == j) e)], rfl⟩
theorem so_or (t : Nat → Int32) (n p : Nat) : (soS t n p = 0 ∧ ¬ p < n) ∨ soS t n p = 5 ∨ (soS t n p = 2 ∧ p < n ∧ isLet (t p) ∧ lnS t n p ≤ 16 ∧ wdJ t p (lnS t n p) = Rf.nul) ∨ (soS t n p = 3 ∧ p < n ∧ ¬ isLet (t p) ∧ isDig (t p)) ∨ (soS t n p = 4 ∧ p < n ∧ ¬ isLet (t p) ∧ ¬ isDig (t p)) ∨ (soS t n p = 1 ∧ p < n ∧ isLet (t p) ∧ lnS t n p ≤ 16 ∧ wdJ t p (lnS t n p) ≠ Rf.nul) := by
  unfold soS
  by_cases h1 : p < n
  · rw [if_pos h1]
    by_cases h2 : isLet (t p)
    · rw [if_pos h2]
      by_cases h3 : lnS t n p ≤ 16
      · rw [if_pos h3]
        by_cases h4 : wdJ t p (lnS t n p) = Rf.nul
        · rw [if_pos h4]
          exact Or.inr (Or.inr (Or.inl ⟨rfl, h1, h2, h3, h4⟩))
        · rw [if_neg h4]
          exact Or.inr (Or.inr (Or.inr (Or.inr (Or.inr ⟨rfl, h1, h2, h3, h4⟩))))
      · rw [if_neg h3]
        exact Or.inr (Or.inl rfl)
    · rw [if_neg h2]
      by_cases h3 : isDig (t p)
      · rw [if_pos h3]
        split
        · exact Or.inr (Or.inr (Or.inr (Or.inl ⟨rfl, h1, h2, h3⟩)))
        · exact Or.inr (Or.inl rfl)
      · rw [if_neg h3]
        split
        · exact Or.inr (Or.inr (Or.inr (Or.inr (Or.inl ⟨rfl, h1, h2, h3⟩))))
        · exact Or.inr (Or.inl rfl)
  · rw [if_neg h1]
    exact Or.inl ⟨rfl, h1⟩
/-- what a sign's number says -/
theorem ty_or (t : Nat → Int32) (n p : Nat) : (tyS t n p = 0 ∧ soS t n p = 0 ∧ ¬ p < n) ∨ (tyS t n p = 1 ∧ soS t n p = 5) ∨ (tyS t n p = 2 ∧ soS t n p = 2 ∧ p < n ∧ isLet (t p) ∧ lnS t n p ≤ 16) ∨ (tyS t n p = 3 ∧ soS t n p = 3 ∧ p < n ∧ ¬ isLet (t p)) ∨ (soS t n p = 4 ∧ p < n ∧ ¬ isLet (t p) ∧ (tyS t n p = 18 ∨ ∃ q ∈ mkL2, q.1 = vaS t n p ∧ tyS t n p = q.2)) ∨ (soS t n p = 1 ∧ p < n ∧ isLet (t p) ∧ lnS t n p ≤ 16 ∧ (tyS t n p = 19 ∨ ∃ q ∈ wdL, wdJ t p (lnS t n p) = Rf.old q.1 ∧ tyS t n p = q.2)) := by
  rcases so_or t n p with h | h | h | h | h | h
  · exact Or.inl ⟨by unfold tyS; rw [if_pos h.1], h⟩
  · refine Or.inr (Or.inl ⟨?_, h⟩)
    unfold tyS
    rw [h]
    rfl
  · refine Or.inr (Or.inr (Or.inl ⟨?_, h.1, h.2.1, h.2.2.1, h.2.2.2.1⟩))
    unfold tyS
    rw [h.1]
    rfl
  · refine Or.inr (Or.inr (Or.inr (Or.inl ⟨?_, h.1, h.2.1, h.2.2.1⟩)))
    unfold tyS
    rw [h.1]
    rfl
  · refine Or.inr (Or.inr (Or.inr (Or.inr (Or.inl ⟨h.1, h.2.1, h.2.2.1, ?_⟩))))
    have e : tyS t n p = mkC (vaS t n p) := by
      unfold tyS
      rw [h.1]
      rfl
    rw [e]
    exact mkC_or _
  · refine Or.inr (Or.inr (Or.inr (Or.inr (Or.inr ⟨h.1, h.2.1, h.2.2.1, h.2.2.2.1, ?_⟩))))
    have e : tyS t n p = wdC (wdJ t p (lnS t n p)) := by
      unfold tyS
      rw [h.1]
      rfl
    rw [e]
    exact wdC_or _
section TOK
variable {t : Nat → Int32} {n p : Nat} {σ : Sg}
theorem ty_mk {c : Int32} {k : Nat} (hk : (c, k) ∈ mkL2) (hC : Cur t n p σ) : (σ.i 0 17 = 4 ∧ σ.i 0 19 = c) ↔ tyS t n p = k := by
  obtain ⟨-, -, -, c17, c19, -⟩ := hC
  obtain ⟨k1, k2, k3⟩ := mkL2_c _ hk
  rw [c17]
  rcases ty_or t n p with h | h | h | h | h | h
  · rw [h.1, h.2.1]
    exact ⟨fun z => absurd z.1 (by decide), fun z => by dsimp only at k2; omega⟩
  · rw [h.1, h.2]
    exact ⟨fun z => absurd z.1 (by decide), fun z => by dsimp only at k2; omega⟩
  · rw [h.1, h.2.1]
    exact ⟨fun z => absurd z.1 (by decide), fun z => by dsimp only at k2; omega⟩
  · rw [h.1, h.2.1]
    exact ⟨fun z => absurd z.1 (by decide), fun z => by dsimp only at k2; omega⟩
  · obtain ⟨h1, h2, h3, h4⟩ := h
    rw [h1, c19 h2 h3]
    constructor
    · rintro ⟨-, z⟩
      have e : tyS t n p = mkC (vaS t n p) := by
        unfold tyS
        rw [h1]
        rfl
      rw [e, z]
      exact k1
    · intro z
      rcases h4 with h4 | ⟨q, q1, q2, q3⟩
      · dsimp only at k3
        omega
      · have := mkL2_i q q1 _ hk (q3.symm.trans z)
        rw [this] at q2
        exact ⟨rfl, q2.symm⟩
  · obtain ⟨h1, h2, h3, h4, h5⟩ := h
    rw [h1]
    refine ⟨fun z => absurd z.1 (by decide), fun z => ?_⟩
    dsimp only at k3
    rcases h5 with h5 | ⟨q, q1, q2, q3⟩
    · omega
    · have := (wdL_c q q1).2.1
      omega
theorem ty_wd {j k : Nat} (hk : (j, k) ∈ wdL) (hC : Cur t n p σ) : (σ.i 0 17 = 1 ∧ σ.r 0 25 = Rf.old j) ↔ tyS t n p = k := by
  obtain ⟨-, -, -, c17, c19, c26⟩ := hC
  obtain ⟨k1, k2, k3, -⟩ := wdL_c _ hk
  dsimp only at k1 k2 k3
  rw [c17]
  rcases ty_or t n p with h | h | h | h | h | h
  · rw [h.1, h.2.1]
    exact ⟨fun z => absurd z.1 (by decide), fun z => by omega⟩
  · rw [h.1, h.2]
    exact ⟨fun z => absurd z.1 (by decide), fun z => by omega⟩
  · rw [h.1, h.2.1]
    exact ⟨fun z => absurd z.1 (by decide), fun z => by omega⟩
  · rw [h.1, h.2.1]
    exact ⟨fun z => absurd z.1 (by decide), fun z => by omega⟩
  · obtain ⟨h1, h2, h3, h4⟩ := h
    rw [h1]
    refine ⟨fun z => absurd z.1 (by decide), fun z => ?_⟩
    rcases h4 with h4 | ⟨q, q1, q2, q3⟩
    · omega
    · have := (mkL2_c q q1).2.2
      omega
  · obtain ⟨h1, h2, h3, h4, h5⟩ := h
    rw [h1, (c26 h2 h3).2 h4]
    constructor
    · rintro ⟨-, z⟩
      have e : tyS t n p = wdC (wdJ t p (lnS t n p)) := by
        unfold tyS
        rw [h1]
        rfl
      rw [e, z]
      exact k1
    · intro z
      rcases h5 with h5 | ⟨q, q1, q2, q3⟩
      · omega
      · have := wdL_i q q1 _ hk (q3.symm.trans z)
        rw [this] at q2
        exact ⟨rfl, q2⟩
theorem ty_lo {k : Nat} (hk : k = 2 ∨ k = 3) (hC : Cur t n p σ) : σ.i 0 17 = Int32.ofNat k ↔ tyS t n p = k := by
  rw [hC.2.2.2.1]
  rcases ty_or t n p with h | h | h | h | h | h
  · rw [h.1, h.2.1]
    rcases hk with rfl | rfl <;> decide
  · rw [h.1, h.2]
    rcases hk with rfl | rfl <;> decide
  · rw [h.1, h.2.1]
    rcases hk with rfl | rfl <;> decide
  · rw [h.1, h.2.1]
    rcases hk with rfl | rfl <;> decide
  · obtain ⟨h1, h2, h3, h4⟩ := h
    rw [h1]
    refine ⟨fun z => ?_, fun z => ?_⟩
    · rcases hk with rfl | rfl <;> exact absurd z (by decide)
    · rcases h4 with h4 | ⟨q, q1, q2, q3⟩
      · omega
      · have := (mkL2_c q q1).2.1
        omega
  · obtain ⟨h1, h2, h3, h4, h5⟩ := h
    rw [h1]
    refine ⟨fun z => ?_, fun z => ?_⟩
    · rcases hk with rfl | rfl <;> exact absurd z (by decide)
    · rcases h5 with h5 | ⟨q, q1, q2, q3⟩
      · omega
      · have := (wdL_c q q1).2.1
        omega
/-- an end, or what is no sign: nothing is read behind it -/
theorem ty_pos (h : 2 ≤ tyS t n p) : p < n := by
  rcases ty_or t n p with q | q | q | q | q | q
  · omega
  · omega
  · exact q.2.2.1
  · exact q.2.2.1
  · exact q.2.1
  · exact q.2.1
theorem ty_nm (h : tyS t n p = 2) : p < n ∧ isLet (t p) ∧ lnS t n p ≤ 16 := by
  rcases ty_or t n p with q | q | q | q | ⟨_, _, _, q⟩ | ⟨_, _, _, _, q⟩
  · omega
  · omega
  · exact q.2.2
  · omega
  · rcases q with q | ⟨q, q1, q2, q3⟩
    · omega
    · have := (mkL2_c q q1).2.1
      omega
  · rcases q with q | ⟨q, q1, q2, q3⟩
    · omega
    · have := (wdL_c q q1).2.1
      omega
end TOK

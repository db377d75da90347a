/-! THE CLASS: names, packed; the row of signs (pure) -/
def cdN (c : Int32) : Nat := if 97 ≤ c.toInt ∧ c.toInt ≤ 122 then (c.toInt - 96).toNat else if 65 ≤ c.toInt ∧ c.toInt ≤ 90 then (c.toInt - 38).toNat else if 48 ≤ c.toInt ∧ c.toInt ≤ 57 then (c.toInt + 6).toNat else if c.toInt = 95 then 53 else 0
/-- it may stand in a name -/
def nmC (c : Int32) : Prop := isLet c ∨ isDig c
theorem i32_rg (c : Int32) (a b : Nat) (ha : a < 2147483648) (hb : b < 2147483648) : (Int32.ofNat a ≤ c ∧ c ≤ Int32.ofNat b) ↔ ((a : Int) ≤ c.toInt ∧ c.toInt ≤ b) := by
  rw [Int32.le_iff_toInt_le, Int32.le_iff_toInt_le, oN_i ha, oN_i hb]
theorem cdN_i (c : Int32) : (97 ≤ c ∧ c ≤ 122 ↔ 97 ≤ c.toInt ∧ c.toInt ≤ 122) ∧ (65 ≤ c ∧ c ≤ 90 ↔ 65 ≤ c.toInt ∧ c.toInt ≤ 90) ∧ (48 ≤ c ∧ c ≤ 57 ↔ 48 ≤ c.toInt ∧ c.toInt ≤ 57) ∧ (c = 95 ↔ c.toInt = 95) := by
  refine ⟨i32_rg c 97 122 (by decide) (by decide), i32_rg c 65 90 (by decide) (by decide), i32_rg c 48 57 (by decide) (by decide), ?_⟩
  exact ⟨fun h => by rw [h]; rfl, fun h => Int32.toInt_inj.mp h⟩
theorem cdN_or (c : Int32) : (97 ≤ c.toInt ∧ c.toInt ≤ 122 ∧ (cdN c : Int) = c.toInt - 96) ∨ (65 ≤ c.toInt ∧ c.toInt ≤ 90 ∧ (cdN c : Int) = c.toInt - 38) ∨ (48 ≤ c.toInt ∧ c.toInt ≤ 57 ∧ (cdN c : Int) = c.toInt + 6) ∨ (c.toInt = 95 ∧ cdN c = 53) ∨ (¬ (97 ≤ c.toInt ∧ c.toInt ≤ 122) ∧ ¬ (65 ≤ c.toInt ∧ c.toInt ≤ 90) ∧ ¬ (48 ≤ c.toInt ∧ c.toInt ≤ 57) ∧ ¬ c.toInt = 95 ∧ cdN c = 0) := by
  unfold cdN
  by_cases q1 : 97 ≤ c.toInt ∧ c.toInt ≤ 122
  · rw [if_pos q1]
    omega
  · rw [if_neg q1]
    by_cases q2 : 65 ≤ c.toInt ∧ c.toInt ≤ 90
    · rw [if_pos q2]
      omega
    · rw [if_neg q2]
      by_cases q3 : 48 ≤ c.toInt ∧ c.toInt ≤ 57
      · rw [if_pos q3]
        omega
      · rw [if_neg q3]
        by_cases q4 : c.toInt = 95
        · rw [if_pos q4]
          omega
        · rw [if_neg q4]
          omega
theorem nmC_i (c : Int32) : nmC c ↔ ((97 ≤ c.toInt ∧ c.toInt ≤ 122) ∨ (65 ≤ c.toInt ∧ c.toInt ≤ 90) ∨ c.toInt = 95) ∨ (48 ≤ c.toInt ∧ c.toInt ≤ 57) := by
  obtain ⟨h1, h2, h3, h4⟩ := cdN_i c
  show ((97 ≤ c ∧ c ≤ 122) ∨ (65 ≤ c ∧ c ≤ 90) ∨ c = 95) ∨ (48 ≤ c ∧ c ≤ 57) ↔ _
  rw [h1, h2, h3, h4]
theorem cdN_nm (c : Int32) : nmC c ↔ 1 ≤ cdN c := by
  rw [nmC_i]
  have := cdN_or c
  omega
theorem cdN_b (c : Int32) : cdN c ≤ 63 := by
  have := cdN_or c
  omega
theorem cdN_inj {c e : Int32} (h : cdN c = cdN e) (hc : 1 ≤ cdN c) : c = e := by
  have h1 := cdN_or c
  have h2 := cdN_or e
  apply Int32.toInt_inj.mp
  omega
def pkN (l : List Int32) : Nat := l.foldl (fun a c => a * 64 + cdN c) 0
theorem pkN_snoc (l : List Int32) (c : Int32) : pkN (l ++ [c]) = pkN l * 64 + cdN c := by
  unfold pkN
  rw [List.foldl_append]
  rfl
theorem snoc_cases {α : Type} (l : List α) : l = [] ∨ ∃ r x, l = r ++ [x] := by
  rcases List.eq_nil_or_concat l with h | ⟨r, x, h⟩
  · exact Or.inl h
  · exact Or.inr ⟨r, x, by rw [h, List.concat_eq_append]⟩
theorem pkN_inj : ∀ (n : Nat) (l m : List Int32), l.length ≤ n → (∀ c ∈ l, 1 ≤ cdN c) → (∀ c ∈ m, 1 ≤ cdN c) → pkN l = pkN m → l = m
  | n, l, m, hn, hl, hm, h => by
    rcases snoc_cases l with rfl | ⟨l', c, rfl⟩
    · rcases snoc_cases m with rfl | ⟨m', e, rfl⟩
      · rfl
      · rw [pkN_snoc] at h
        have := hm e (by simp)
        have h : 0 = pkN m' * 64 + cdN e := h
        omega
    · rcases snoc_cases m with rfl | ⟨m', e, rfl⟩
      · rw [pkN_snoc] at h
        have := hl c (by simp)
        have h : pkN l' * 64 + cdN c = 0 := h
        omega
      · rw [pkN_snoc, pkN_snoc] at h
        have h1 := hl c (by simp)
        have h3 := cdN_b c
        have h4 := cdN_b e
        have e1 : cdN c = cdN e := by omega
        have e2 : pkN l' = pkN m' := by omega
        match n, hn with
        | 0, hn => rw [List.length_append] at hn; exact absurd hn (by simp)
        | n + 1, hn =>
          rw [cdN_inj e1 h1, pkN_inj n l' m' (by rw [List.length_append] at hn; have : [c].length = 1 := rfl; omega) (fun x hx => hl x (List.mem_append_left _ hx)) (fun x hx => hm x (List.mem_append_left _ hx)) e2]
theorem pkN_lt : ∀ (k : Nat) (l : List Int32), l.length ≤ k → pkN l < 64 ^ k
  | k, l, h => by
    rcases snoc_cases l with rfl | ⟨l', c, rfl⟩
    · exact Nat.pow_pos (by decide)
    · match k, h with
      | 0, h => rw [List.length_append] at h; exact absurd h (by simp)
      | k + 1, h =>
        have := pkN_lt k l' (by rw [List.length_append] at h; have : [c].length = 1 := rfl; omega)
        have h4 := cdN_b c
        rw [pkN_snoc, Nat.pow_succ]
        omega
/-- the first ten letters, and those behind -/
def nmH (nm : List Int32) : Int64 := Int64.ofNat (pkN (nm.take 10))
def nmT (nm : List Int32) : Int64 := Int64.ofNat (pkN (nm.drop 10))
theorem oL_eq {a b : Nat} (ha : a < 2 ^ 63) (hb : b < 2 ^ 63) : Int64.ofNat a = Int64.ofNat b ↔ a = b := by
  constructor
  · intro h
    have := congrArg Int64.toInt h
    rw [Int64.toInt_ofNat_of_lt ha, Int64.toInt_ofNat_of_lt hb] at this
    omega
  · intro h
    rw [h]
theorem nm_inj {a b : List Int32} (ha : a.length ≤ 16 ∧ ∀ c ∈ a, nmC c) (hb : b.length ≤ 16 ∧ ∀ c ∈ b, nmC c) (h1 : nmH a = nmH b) (h2 : nmT a = nmT b) : a = b := by
  have p1 := pkN_lt 10 (a.take 10) (by rw [List.length_take]; omega)
  have p2 := pkN_lt 10 (b.take 10) (by rw [List.length_take]; omega)
  have p3 := pkN_lt 6 (a.drop 10) (by rw [List.length_drop]; omega)
  have p4 := pkN_lt 6 (b.drop 10) (by rw [List.length_drop]; omega)
  have e10 : (64 : Nat) ^ 10 < 2 ^ 63 := by decide
  have e6 : (64 : Nat) ^ 6 < 2 ^ 63 := by decide
  unfold nmH at h1
  unfold nmT at h2
  rw [oL_eq (by omega) (by omega)] at h1 h2
  have q1 := pkN_inj _ _ _ (Nat.le_refl _) (fun c hc => (cdN_nm c).mp (ha.2 c (List.mem_of_mem_take hc))) (fun c hc => (cdN_nm c).mp (hb.2 c (List.mem_of_mem_take hc))) h1
  have q2 := pkN_inj _ _ _ (Nat.le_refl _) (fun c hc => (cdN_nm c).mp (ha.2 c (List.mem_of_mem_drop hc))) (fun c hc => (cdN_nm c).mp (hb.2 c (List.mem_of_mem_drop hc))) h2
  rw [← List.take_append_drop 10 a, ← List.take_append_drop 10 b, q1, q2]
/-- the place of the i-th sign; behind one that is none, and behind the end, the end -/
def sgP (t : Nat → Int32) (n : Nat) : Nat → Nat
  | 0 => fiS t n
  | i + 1 => if tyS t n (sgP t n i) ≤ 1 then n else nxS t n (sgP t n i)
/-- so many signs stand before the end -/
def SgE (t : Nat → Int32) (n N : Nat) : Prop := tyS t n (sgP t n N) = 0 ∧ ∀ i, i < N → tyS t n (sgP t n i) ≠ 0
theorem ty_0 {t : Nat → Int32} {n p : Nat} : tyS t n p = 0 ↔ ¬ p < n := by
  rcases ty_or t n p with h | h | h | h | h | h
  · exact ⟨fun _ => h.2.2, fun _ => h.1⟩
  · refine ⟨fun z => by omega, fun z => ?_⟩
    have := h.2
    unfold soS at this
    rw [if_neg z] at this
    exact absurd this (by decide)
  · exact ⟨fun z => by omega, fun z => absurd h.2.2.1 z⟩
  · exact ⟨fun z => by omega, fun z => absurd h.2.2.1 z⟩
  · refine ⟨fun z => ?_, fun z => absurd h.2.1 z⟩
    rcases h.2.2.2 with q | ⟨q, q1, -, q2⟩
    · omega
    · have := (mkL2_c q q1).2.1
      omega
  · refine ⟨fun z => ?_, fun z => absurd h.2.1 z⟩
    rcases h.2.2.2.2 with q | ⟨q, q1, -, q2⟩
    · omega
    · have := (wdL_c q q1).2.1
      omega
theorem sgP_le (t : Nat → Int32) (n : Nat) : ∀ i, sgP t n i ≤ n
  | 0 => fi_le t n
  | i + 1 => by
    rw [sgP]
    split
    · exact Nat.le_refl _
    · exact nxS_le t (sgP_le t n i)

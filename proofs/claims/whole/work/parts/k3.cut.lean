/-! CUTS OF NUMBERS: cells, by bounds on differences -/
abbrev Cut : Type := Nat × Nat × Int
section CUTS
variable (cs : List Cut)
/-- on which side of cut k numbers lie -/
def cuB (x : Nat → Int) (k : Nat) : Bool := match cs[k]? with
  | some q => decide (x q.1 - x q.2.1 ≤ q.2.2)
  | none => false
/-- the bound of a side -/
def cuS (k : Nat) (b : Bool) : Cut := match cs[k]? with
  | some q => if b = true then q else (q.2.1, q.1, -q.2.2 - 1)
  | none => (0, 0, 0)
/-- the bounds behind so many cuts -/
def mxF (β : Nat → Bool) : Nat → Nat → Nat → Int
  | 0 => d0
  | k + 1 => dUp (mxF β k) (cuS cs k (β k)).1 (cuS cs k (β k)).2.1 (cuS cs k (β k)).2.2
def CuW : Prop := ∀ (k : Nat) q, cs[k]? = some q → q.1 < 4 ∧ q.2.1 < 4 ∧ -8589934592 ≤ q.2.2 ∧ q.2.2 ≤ 8589934592
/-- the first is 0, the others are ints -/
def PtW (x : Nat → Int) : Prop := x 0 = 0 ∧ ∀ k, 1 ≤ k → k < 4 → -2147483648 ≤ x k ∧ x k ≤ 2147483647
def agB (β : Nat → Bool) (l : Nat) (x : Nat → Int) : Prop := ∀ k, k < l → cuB cs x k = β k
/-- numbers are left on side b of cut k -/
def okS (β : Nat → Bool) (k : Nat) (b : Bool) : Prop := 0 ≤ mxF cs β k (cuS cs k b).2.1 (cuS cs k b).1 + (cuS cs k b).2.2
def NeP (β : Nat → Bool) (l : Nat) : Prop := ∀ k, k < l → okS cs β k (β k)
/-- what is to come: s sides of cut L are done -/
def TcP (β : Nat → Bool) (L s : Nat) (x : Nat → Int) : Prop := (∃ l, l < L ∧ agB cs β l x ∧ β l = true ∧ cuB cs x l = false) ∨ (agB cs β L x ∧ (s = 0 ∨ (s = 1 ∧ cuB cs x L = false)))
end CUTS
def upB (β : Nat → Bool) (L : Nat) (b : Bool) : Nat → Bool := fun k => if k = L then b else β k
section CUTS2
variable {cs : List Cut} {β γ : Nat → Bool} {L l k : Nat} {b : Bool} {x : Nat → Int}
theorem up_lt (h : k < L) : upB β L b k = β k := if_neg (by omega)
theorem up_at : upB β L b L = b := if_pos rfl
theorem cu_iff (hk : k < cs.length) : cuB cs x k = b ↔ x (cuS cs k b).1 - x (cuS cs k b).2.1 ≤ (cuS cs k b).2.2 := by
  unfold cuB cuS
  rw [List.getElem?_eq_getElem hk]
  dsimp only
  cases b with
  | true => rw [if_pos rfl, decide_eq_true_iff]
  | false =>
    rw [if_neg (by decide), decide_eq_false_iff_not]
    dsimp only
    omega
theorem cuS_w (hW : CuW cs) (hk : k < cs.length) : (cuS cs k b).1 < 4 ∧ (cuS cs k b).2.1 < 4 ∧ -8589934593 ≤ (cuS cs k b).2.2 ∧ (cuS cs k b).2.2 ≤ 8589934592 := by
  have := hW k _ (List.getElem?_eq_getElem hk)
  unfold cuS
  rw [List.getElem?_eq_getElem hk]
  dsimp only
  cases b with
  | true =>
    rw [if_pos rfl]
    omega
  | false =>
    rw [if_neg (by decide)]
    dsimp only
    omega
theorem mx_cg : ∀ l, (∀ k, k < l → β k = γ k) → mxF cs β l = mxF cs γ l
  | 0, _ => rfl
  | l + 1, h => by
    show dUp (mxF cs β l) (cuS cs l (β l)).1 (cuS cs l (β l)).2.1 (cuS cs l (β l)).2.2 = dUp (mxF cs γ l) (cuS cs l (γ l)).1 (cuS cs l (γ l)).2.1 (cuS cs l (γ l)).2.2
    rw [mx_cg l (fun k hk => h k (by omega)), h l (by omega)]
theorem ag_cg (h : ∀ k, k < l → β k = γ k) : agB cs β l x ↔ agB cs γ l x := ⟨fun g k hk => (g k hk).trans (h k hk), fun g k hk => (g k hk).trans (h k hk).symm⟩
theorem ag_s : agB cs β (l + 1) x ↔ agB cs β l x ∧ cuB cs x l = β l := ⟨fun g => ⟨fun k hk => g k (by omega), g l (by omega)⟩, fun g k hk => by
  by_cases e : k = l
  · rw [e]
    exact g.2
  · exact g.1 k (by omega)⟩
theorem NeP.cg (h : NeP cs β l) (g : ∀ k, k < l → β k = γ k) : NeP cs γ l := fun k hk => by
  have := h k hk
  unfold okS at this ⊢
  rw [← g k hk, ← mx_cg k (fun j hj => g j (by omega))]
  exact this
theorem NeP.mono {m : Nat} (h : NeP cs β l) (g : m ≤ l) : NeP cs β m := fun k hk => h k (by omega)
theorem ok_cg (g : ∀ k, k < l → β k = γ k) : okS cs β l b ↔ okS cs γ l b := by
  unfold okS
  rw [mx_cg l g]
theorem mx_cl (hW : CuW cs) : ∀ l, l ≤ cs.length → NeP cs β l → dCl (mxF cs β l)
  | 0, _, _ => d0_cl
  | l + 1, h, hN => by
    obtain ⟨w1, w2, -⟩ := cuS_w (b := β l) hW (show l < cs.length by omega)
    exact dUp_cl (mx_cl hW l (by omega) (hN.mono (by omega))) w1 w2 (hN l (by omega))
theorem pt_d0 (h0 : x 0 = 0) : dSo d0 x ↔ PtW x := (d0_so h0).trans ⟨fun h => ⟨h0, h⟩, fun h => h.2⟩
theorem mx_so (hW : CuW cs) (h0 : x 0 = 0) : ∀ l, l ≤ cs.length → NeP cs β l → (dSo (mxF cs β l) x ↔ PtW x ∧ agB cs β l x)
  | 0, _, _ => (pt_d0 h0).trans ⟨fun h => ⟨h, fun k hk => absurd hk (Nat.not_lt_zero _)⟩, fun h => h.1⟩
  | l + 1, h, hN => by
    obtain ⟨w1, w2, -⟩ := cuS_w (b := β l) hW (show l < cs.length by omega)
    have ih := mx_so hW h0 l (by omega) (hN.mono (by omega))
    refine (dUp_so (mx_cl hW l (by omega) (hN.mono (by omega))) w1 w2).trans ?_
    rw [ih, ag_s, cu_iff (show l < cs.length by omega), and_assoc]
/-- no numbers are there -/
theorem ok_no (hW : CuW cs) (hl : l < cs.length) (hN : NeP cs β l) (h : ¬ okS cs β l b) (hx : PtW x) (ha : agB cs β l x) : ¬ cuB cs x l = b := by
  obtain ⟨w1, w2, -⟩ := cuS_w (b := b) hW hl
  rw [cu_iff hl]
  exact d_no w1 w2 h ((mx_so hW hx.1 l (by omega) hN).mpr ⟨hx, ha⟩)
/-- there are numbers -/
theorem ne_ex (hW : CuW cs) (hl : l ≤ cs.length) (hN : NeP cs β l) : ∃ x, PtW x ∧ agB cs β l x := by
  obtain ⟨s1, s2⟩ := dCl_so (mx_cl hW l hl hN)
  exact ⟨fun k => mxF cs β l k 0, (mx_so (x := fun k => mxF cs β l k 0) hW s2 l hl hN).mp s1⟩
theorem ok_or (hW : CuW cs) (hl : l < cs.length) (hN : NeP cs β l) : okS cs β l true ∨ okS cs β l false := by
  obtain ⟨x, h1, h2⟩ := ne_ex hW (Nat.le_of_lt hl) hN
  cases hb : cuB cs x l with
  | true => exact Or.inl (Classical.byContradiction fun q => ok_no hW hl hN q h1 h2 hb)
  | false => exact Or.inr (Classical.byContradiction fun q => ok_no hW hl hN q h1 h2 hb)
theorem ne_up (hN : NeP cs β l) (h : okS cs β l b) : NeP cs (upB β l b) (l + 1) := fun k hk => by
  by_cases e : k = l
  · subst e
    rw [up_at]
    exact (ok_cg (fun j hj => (up_lt hj).symm)).mp h
  · rw [up_lt (by omega)]
    exact (ok_cg (fun j hj => (up_lt (by omega)).symm)).mp (hN k (by omega))
/-- bounds stay small -/
theorem mx_up : ∀ l i j, mxF cs β l i j ≤ d0 i j
  | 0, _, _ => Int.le_refl _
  | l + 1, i, j => by
    have := mx_up l i j
    show dUp _ _ _ _ i j ≤ _
    unfold dUp
    split <;> omega
theorem d0_le (i j : Nat) : d0 i j ≤ 4294967295 := by
  unfold d0
  repeat' split
  all_goals omega
theorem mx_lo (hW : CuW cs) (hl : l ≤ cs.length) (hN : NeP cs β l) {i j : Nat} (hi : i < 4) (hj : j < 4) : -4294967295 ≤ mxF cs β l i j ∧ mxF cs β l i j ≤ 4294967295 := by
  obtain ⟨c1, c2⟩ := mx_cl hW l hl hN
  have e1 := c1 i hi
  have e2 := c2 i j i hi hj hi
  have e3 := mx_up (cs := cs) (β := β) l j i
  have e4 := mx_up (cs := cs) (β := β) l i j
  have e5 := d0_le i j
  have e6 := d0_le j i
  omega
/-! what is to come -/
theorem tc_all : TcP cs β 0 0 x := Or.inr ⟨fun k hk => absurd hk (Nat.not_lt_zero _), Or.inl rfl⟩
theorem tc_end : ¬ TcP cs β 0 2 x := by
  rintro (⟨l, h, -⟩ | ⟨-, h | ⟨h, -⟩⟩)
  · exact Nat.not_lt_zero _ h
  · cases h
  · cases h
/-- into side b of cut L -/
theorem tc_in {s : Nat} (hs : (s = 0 ∧ b = true) ∨ (s = 1 ∧ b = false)) : TcP cs (upB β L b) (L + 1) 0 x ↔ TcP cs β L s x := by
  have e : ∀ {l}, l ≤ L → (agB cs (upB β L b) l x ↔ agB cs β l x) := fun h => ag_cg (fun k hk => up_lt (by omega))
  unfold TcP
  constructor
  · rintro (⟨l, h1, h2, h3, h4⟩ | ⟨h1, -⟩)
    · by_cases q : l = L
      · subst q
        rw [up_at] at h3
        subst h3
        have h2 := (e (Nat.le_refl _)).mp h2
        rcases hs with hs | hs
        · exact Or.inr ⟨h2, Or.inl hs.1⟩
        · cases hs.2
      · rw [up_lt (by omega)] at h3
        exact Or.inl ⟨l, by omega, (e (by omega)).mp h2, h3, h4⟩
    · rw [ag_s, up_at] at h1
      refine Or.inr ⟨(e (Nat.le_refl _)).mp h1.1, ?_⟩
      rcases hs with hs | hs
      · exact Or.inl hs.1
      · exact Or.inr ⟨hs.1, h1.2.trans hs.2⟩
  · rintro (⟨l, h1, h2, h3, h4⟩ | ⟨h1, h2⟩)
    · exact Or.inl ⟨l, by omega, (e (by omega)).mpr h2, by rw [up_lt h1]; exact h3, h4⟩
    · have h1 := (e (Nat.le_refl _)).mpr h1
      rcases h2 with h2 | h2
      · rcases hs with hs | hs
        · cases hc : cuB cs x L with
          | true => exact Or.inr ⟨ag_s.mpr ⟨h1, by rw [up_at, hc, hs.2]⟩, Or.inl rfl⟩
          | false => exact Or.inl ⟨L, by omega, h1, by rw [up_at]; exact hs.2, hc⟩
        · omega
      · rcases hs with hs | hs
        · omega
        · exact Or.inr ⟨ag_s.mpr ⟨h1, by rw [up_at, h2.2, hs.2]⟩, Or.inl rfl⟩
/-- nothing is on that side -/
theorem tc_no {s : Nat} (hs : (s = 0 ∧ b = true) ∨ (s = 1 ∧ b = false)) (h : agB cs β L x → ¬ cuB cs x L = b) : TcP cs β L (s + 1) x ↔ TcP cs β L s x := by
  unfold TcP
  constructor
  · rintro (g | ⟨g1, g2⟩)
    · exact Or.inl g
    · have := h g1
      refine Or.inr ⟨g1, ?_⟩
      rcases hs with hs | hs
      · exact Or.inl hs.1
      · omega
  · rintro (g | ⟨g1, g2⟩)
    · exact Or.inl g
    · have := h g1
      refine Or.inr ⟨g1, ?_⟩
      rcases hs with hs | hs
      · refine Or.inr ⟨by omega, ?_⟩
        rw [hs.2] at this
        exact Bool.eq_false_iff.mpr this
      · rcases g2 with g2 | g2
        · omega
        · exact absurd (g2.2.trans hs.2.symm) this
/-- one level up -/
theorem tc_up : TcP cs β (L + 1) 2 x ↔ TcP cs β L (if β L = true then 1 else 2) x := by
  unfold TcP
  constructor
  · rintro (⟨l, h1, h2, h3, h4⟩ | ⟨h1, h2⟩)
    · by_cases q : l = L
      · subst q
        rw [if_pos h3]
        exact Or.inr ⟨h2, Or.inr ⟨rfl, h4⟩⟩
      · exact Or.inl ⟨l, by omega, h2, h3, h4⟩
    · omega
  · rintro (⟨l, h1, h2, h3, h4⟩ | ⟨h1, h2⟩)
    · exact Or.inl ⟨l, by omega, h2, h3, h4⟩
    · by_cases q : β L = true
      · rw [if_pos q] at h2
        rcases h2 with h2 | h2
        · omega
        · exact Or.inl ⟨L, by omega, h1, q, h2.2⟩
      · rw [if_neg q] at h2
        omega
/-- a cell is reached: it, and what is behind it -/
theorem tc_cell : TcP cs β L 0 x ↔ agB cs β L x ∨ TcP cs β L 2 x := by
  unfold TcP
  constructor
  · rintro (h | ⟨h, -⟩)
    · exact Or.inr (Or.inl h)
    · exact Or.inl h
  · rintro (h | h | ⟨-, h⟩)
    · exact Or.inr ⟨h, Or.inl rfl⟩
    · exact Or.inl h
    · omega
theorem tc_dis (h : agB cs β L x) : ¬ TcP cs β L 2 x := by
  rintro (⟨l, h1, h2, h3, h4⟩ | ⟨h1, h2⟩)
  · rw [h l h1, h3] at h4
    cases h4
  · omega
end CUTS2

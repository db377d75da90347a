/-! CUTS OF NUMBERS: how many cells there are -/
def prP (i j : Nat) : Nat := if i = j then 6 else if min i j = 0 then max i j - 1 else if min i j = 1 then max i j + 1 else 5
/-- the two numbers that a cut speaks of -/
def prK (cs : List Cut) (k : Nat) : Nat := match cs[k]? with
  | some q => prP q.1 q.2.1
  | none => 6
/-- a cut, so that it says: the difference is at most .. -/
def nbK (cs : List Cut) (x : Nat → Int) (k : Nat) : Bool := match cs[k]? with
  | some q => if q.1 < q.2.1 then cuB cs x k else !cuB cs x k
  | none => false
def dfP (x : Nat → Int) (p : Nat) : Int := if p = 0 then x 0 - x 1 else if p = 1 then x 0 - x 2 else if p = 2 then x 0 - x 3 else if p = 3 then x 1 - x 2 else if p = 4 then x 1 - x 3 else x 2 - x 3
theorem df_pr {i j : Nat} (x : Nat → Int) (hi : i < 4) (hj : j < 4) (h : i < j) : dfP x (prP i j) = x i - x j ∧ prP i j < 6 ∧ prP j i = prP i j := by
  have : (i = 0 ∧ j = 1) ∨ (i = 0 ∧ j = 2) ∨ (i = 0 ∧ j = 3) ∨ (i = 1 ∧ j = 2) ∨ (i = 1 ∧ j = 3) ∨ (i = 2 ∧ j = 3) := by omega
  rcases this with ⟨rfl, rfl⟩ | ⟨rfl, rfl⟩ | ⟨rfl, rfl⟩ | ⟨rfl, rfl⟩ | ⟨rfl, rfl⟩ | ⟨rfl, rfl⟩ <;> exact ⟨rfl, by decide, by decide⟩
theorem nb_th {cs : List Cut} (hW : CuW cs) {k : Nat} (hk : k < cs.length) : (prK cs k = 6 ∧ ∀ x y, cuB cs x k = cuB cs y k) ∨ (prK cs k < 6 ∧ (∃ t, ∀ x, nbK cs x k = decide (dfP x (prK cs k) ≤ t)) ∧ ∀ x y, nbK cs x k = nbK cs y k → cuB cs x k = cuB cs y k) := by
  obtain ⟨w1, w2, -⟩ := hW k _ (List.getElem?_eq_getElem hk)
  unfold nbK prK cuB
  rw [List.getElem?_eq_getElem hk]
  dsimp only
  generalize cs[k] = q at w1 w2 ⊢
  obtain ⟨i, j, c⟩ := q
  dsimp only at w1 w2 ⊢
  by_cases e : i = j
  · subst e
    refine Or.inl ⟨if_pos rfl, fun x y => ?_⟩
    have : (x i - x i ≤ c) ↔ (y i - y i ≤ c) := by omega
    exact decide_eq_decide.mpr this
  · by_cases lt : i < j
    · refine Or.inr ⟨(df_pr (fun _ => 0) w1 w2 lt).2.1, ⟨c, fun x => ?_⟩, fun x y h => ?_⟩
      · rw [if_pos lt, (df_pr x w1 w2 lt).1]
      · rw [if_pos lt, if_pos lt] at h
        exact h
    · have gt : j < i := by omega
      refine Or.inr ⟨by rw [(df_pr (fun _ => 0) w2 w1 gt).2.2]; exact (df_pr (fun _ => 0) w2 w1 gt).2.1, ⟨-c - 1, fun x => ?_⟩, fun x y h => ?_⟩
      · have e : dfP x (prP i j) = x j - x i := by
          rw [(df_pr x w2 w1 gt).2.2]
          exact (df_pr x w2 w1 gt).1
        rw [if_neg lt]
        by_cases q : x i - x j ≤ c
        · rw [decide_eq_true q, decide_eq_false (by omega)]
          rfl
        · rw [decide_eq_false q, decide_eq_true (by omega)]
          rfl
      · rw [if_neg lt, if_neg lt] at h
        exact Bool.not_inj h
theorem fl_le {q r : Nat → Bool} : ∀ l : List Nat, (∀ k ∈ l, q k = true → r k = true) → (l.filter q).length ≤ (l.filter r).length
  | [], _ => Nat.le_refl _
  | a :: l, h => by
    have ih := fl_le l (fun k hk => h k (List.mem_cons_of_mem _ hk))
    by_cases e : q a = true
    · rw [List.filter_cons_of_pos e, List.filter_cons_of_pos (h a (List.mem_cons_self ..) e)]
      exact Nat.succ_le_succ ih
    · rw [List.filter_cons_of_neg e]
      by_cases f : r a = true
      · rw [List.filter_cons_of_pos f]
        exact Nat.le_succ_of_le ih
      · rw [List.filter_cons_of_neg f]
        exact ih
theorem fl_eq {q r : Nat → Bool} : ∀ l : List Nat, (∀ k ∈ l, q k = true → r k = true) → (l.filter q).length = (l.filter r).length → ∀ k ∈ l, r k = true → q k = true
  | [], _, _ => fun k hk => by cases hk
  | a :: l, h, g => by
    have h' : ∀ k ∈ l, q k = true → r k = true := fun k hk => h k (List.mem_cons_of_mem _ hk)
    have le := fl_le l h'
    intro k hk hr
    by_cases e : q a = true
    · rw [List.filter_cons_of_pos e, List.filter_cons_of_pos (h a (List.mem_cons_self ..) e)] at g
      have g := Nat.succ.inj g
      rcases List.mem_cons.mp hk with rfl | m
      · exact e
      · exact fl_eq l h' g k m hr
    · rw [List.filter_cons_of_neg e] at g
      by_cases f : r a = true
      · rw [List.filter_cons_of_pos f, List.length_cons] at g
        omega
      · rw [List.filter_cons_of_neg f] at g
        rcases List.mem_cons.mp hk with rfl | m
        · exact absurd hr f
        · exact fl_eq l h' g k m hr
/-- how many of the cuts on a difference it passes; how many there are -/
def rkP (cs : List Cut) (x : Nat → Int) (p : Nat) : Nat := ((List.range cs.length).filter fun k => decide (prK cs k = p) && nbK cs x k).length
def uuP (cs : List Cut) (p : Nat) : Nat := ((List.range cs.length).filter fun k => decide (prK cs k = p)).length
theorem rk_le (cs : List Cut) (x : Nat → Int) (p : Nat) : rkP cs x p ≤ uuP cs p := fl_le _ (fun k _ h => (Bool.and_eq_true_iff.mp h).1)
theorem rk_eq {cs : List Cut} (hW : CuW cs) {x y : Nat → Int} (h : ∀ p, p < 6 → rkP cs x p = rkP cs y p) {k : Nat} (hk : k < cs.length) : cuB cs x k = cuB cs y k := by
  rcases nb_th hW hk with ⟨-, h6⟩ | ⟨lt, -, h6⟩
  · exact h6 x y
  · refine h6 x y ?_
    have key : ∀ x y : Nat → Int, rkP cs x (prK cs k) = rkP cs y (prK cs k) → dfP x (prK cs k) ≤ dfP y (prK cs k) → nbK cs x k = nbK cs y k := fun x y e le => by
      have im : ∀ j ∈ List.range cs.length, (decide (prK cs j = prK cs k) && nbK cs y j) = true → (decide (prK cs j = prK cs k) && nbK cs x j) = true := fun j hj hy => by
        obtain ⟨e1, e2⟩ := Bool.and_eq_true_iff.mp hy
        rw [Bool.and_eq_true_iff]
        refine ⟨e1, ?_⟩
        have e1 := of_decide_eq_true e1
        rcases nb_th hW (List.mem_range.mp hj) with ⟨z, -⟩ | ⟨-, ⟨t, ht⟩, -⟩
        · omega
        · rw [ht, e1] at e2 ⊢
          have := of_decide_eq_true e2
          exact decide_eq_true (by omega)
      have r := fl_eq (q := fun j => decide (prK cs j = prK cs k) && nbK cs y j) (r := fun j => decide (prK cs j = prK cs k) && nbK cs x j) (List.range cs.length) im e.symm k (List.mem_range.mpr hk)
      cases hx : nbK cs x k with
      | true =>
        have := r (by rw [hx, decide_eq_true rfl]; rfl)
        exact (Bool.and_eq_true_iff.mp this).2.symm
      | false =>
        cases hy : nbK cs y k with
        | false => rfl
        | true =>
          have := im k (List.mem_range.mpr hk) (by rw [hy, decide_eq_true rfl]; rfl)
          rw [hx] at this
          exact absurd (Bool.and_eq_true_iff.mp this).2 (by decide)
    rcases Int.le_total (dfP x (prK cs k)) (dfP y (prK cs k)) with q | q
    · exact key x y (h _ lt) q
    · exact (key y x (h _ lt).symm q).symm
/-- a number of its own for each cell -/
def cdX (cs : List Cut) (x : Nat → Int) : Nat := rkP cs x 0 + (uuP cs 0 + 1) * (rkP cs x 1 + (uuP cs 1 + 1) * (rkP cs x 2 + (uuP cs 2 + 1) * (rkP cs x 3 + (uuP cs 3 + 1) * (rkP cs x 4 + (uuP cs 4 + 1) * rkP cs x 5))))
theorem mr_inj {u a b a' b' : Nat} (h1 : a ≤ u) (h2 : a' ≤ u) (h : a + (u + 1) * b = a' + (u + 1) * b') : a = a' ∧ b = b' := by
  have e1 : (a + (u + 1) * b) % (u + 1) = (a' + (u + 1) * b') % (u + 1) := by rw [h]
  rw [Nat.add_mul_mod_self_left, Nat.add_mul_mod_self_left, Nat.mod_eq_of_lt (by omega), Nat.mod_eq_of_lt (by omega)] at e1
  refine ⟨e1, ?_⟩
  rw [e1] at h
  exact Nat.eq_of_mul_eq_mul_left (Nat.succ_pos u) (Nat.add_left_cancel h)
theorem mr_lt {u a b M : Nat} (h1 : a ≤ u) (h2 : b < M) : a + (u + 1) * b < (u + 1) * M := by
  have : (u + 1) * (b + 1) ≤ (u + 1) * M := Nat.mul_le_mul_left _ h2
  rw [Nat.mul_add, Nat.mul_one] at this
  omega
theorem cd_inj {cs : List Cut} (hW : CuW cs) {x y : Nat → Int} (h : cdX cs x = cdX cs y) {k : Nat} (hk : k < cs.length) : cuB cs x k = cuB cs y k := by
  unfold cdX at h
  obtain ⟨e0, h⟩ := mr_inj (rk_le cs x 0) (rk_le cs y 0) h
  obtain ⟨e1, h⟩ := mr_inj (rk_le cs x 1) (rk_le cs y 1) h
  obtain ⟨e2, h⟩ := mr_inj (rk_le cs x 2) (rk_le cs y 2) h
  obtain ⟨e3, h⟩ := mr_inj (rk_le cs x 3) (rk_le cs y 3) h
  obtain ⟨e4, e5⟩ := mr_inj (rk_le cs x 4) (rk_le cs y 4) h
  refine rk_eq hW (fun p hp => ?_) hk
  have : p = 0 ∨ p = 1 ∨ p = 2 ∨ p = 3 ∨ p = 4 ∨ p = 5 := by omega
  rcases this with rfl | rfl | rfl | rfl | rfl | rfl
  · exact e0
  · exact e1
  · exact e2
  · exact e3
  · exact e4
  · exact e5
theorem uu_sum (cs : List Cut) : uuP cs 0 + uuP cs 1 + uuP cs 2 + uuP cs 3 + uuP cs 4 + uuP cs 5 ≤ cs.length := by
  have : ∀ l : List Nat, (l.filter fun k => decide (prK cs k = 0)).length + (l.filter fun k => decide (prK cs k = 1)).length + (l.filter fun k => decide (prK cs k = 2)).length + (l.filter fun k => decide (prK cs k = 3)).length + (l.filter fun k => decide (prK cs k = 4)).length + (l.filter fun k => decide (prK cs k = 5)).length ≤ l.length := by
    intro l
    induction l with
    | nil => exact Nat.le_refl _
    | cons a l ih =>
      have f : ∀ p, (((a :: l).filter fun k => decide (prK cs k = p)).length : Nat) = (if prK cs a = p then 1 else 0) + (l.filter fun k => decide (prK cs k = p)).length := fun p => by
        by_cases e : prK cs a = p
        · rw [List.filter_cons_of_pos (by exact decide_eq_true e), if_pos e, List.length_cons]
          omega
        · rw [List.filter_cons_of_neg (by rw [decide_eq_true_iff]; exact e), if_neg e]
          omega
      rw [f, f, f, f, f, f, List.length_cons]
      by_cases e0 : prK cs a = 0
      · rw [if_pos e0, if_neg (by omega), if_neg (by omega), if_neg (by omega), if_neg (by omega), if_neg (by omega)]
        omega
      · by_cases e1 : prK cs a = 1
        · rw [if_neg e0, if_pos e1, if_neg (by omega), if_neg (by omega), if_neg (by omega), if_neg (by omega)]
          omega
        · by_cases e2 : prK cs a = 2
          · rw [if_neg e0, if_neg e1, if_pos e2, if_neg (by omega), if_neg (by omega), if_neg (by omega)]
            omega
          · by_cases e3 : prK cs a = 3
            · rw [if_neg e0, if_neg e1, if_neg e2, if_pos e3, if_neg (by omega), if_neg (by omega)]
              omega
            · by_cases e4 : prK cs a = 4
              · rw [if_neg e0, if_neg e1, if_neg e2, if_neg e3, if_pos e4, if_neg (by omega)]
                omega
              · rw [if_neg e0, if_neg e1, if_neg e2, if_neg e3, if_neg e4]
                split <;> omega
  have h := this (List.range cs.length)
  rw [List.length_range] at h
  exact h
theorem p5_le : ∀ u, u ≤ 36 → (u + 1) ^ 5 ≤ 264 * 2 ^ u := by decide +kernel
theorem six_lt {a b c d e f : Nat} (h : a + b + c + d + e + f ≤ 36) : (a + 1) * ((b + 1) * ((c + 1) * ((d + 1) * ((e + 1) * (f + 1))))) < 1000000 := by
  refine Nat.lt_of_not_le fun q => ?_
  have q5 := Nat.pow_le_pow_left q 5
  rw [Nat.mul_pow, Nat.mul_pow, Nat.mul_pow, Nat.mul_pow, Nat.mul_pow] at q5
  have r := Nat.mul_le_mul (p5_le a (by omega)) (Nat.mul_le_mul (p5_le b (by omega)) (Nat.mul_le_mul (p5_le c (by omega)) (Nat.mul_le_mul (p5_le d (by omega)) (Nat.mul_le_mul (p5_le e (by omega)) (p5_le f (by omega))))))
  have e1 : 264 * 2 ^ a * (264 * 2 ^ b * (264 * 2 ^ c * (264 * 2 ^ d * (264 * 2 ^ e * (264 * 2 ^ f))))) = 264 ^ 6 * 2 ^ (a + b + c + d + e + f) := by
    rw [Nat.pow_add, Nat.pow_add, Nat.pow_add, Nat.pow_add, Nat.pow_add]
    generalize 2 ^ a = A
    generalize 2 ^ b = B
    generalize 2 ^ c = C
    generalize 2 ^ d = D
    generalize 2 ^ e = E
    generalize 2 ^ f = F
    rw [show (264 : Nat) ^ 6 = 264 * (264 * (264 * (264 * (264 * 264)))) by decide +kernel]
    simp only [Nat.mul_comm, Nat.mul_left_comm, Nat.mul_assoc]
  rw [e1] at r
  have s : 2 ^ (a + b + c + d + e + f) ≤ 2 ^ 36 := Nat.pow_le_pow_right (by decide) h
  have t := Nat.le_trans q5 (Nat.le_trans r (Nat.mul_le_mul_left _ s))
  exact absurd t (by decide +kernel)
theorem cd_lt {cs : List Cut} (h : cs.length ≤ 36) (x : Nat → Int) : cdX cs x < 1000000 := by
  have s := uu_sum cs
  refine Nat.lt_trans ?_ (six_lt (a := uuP cs 0) (b := uuP cs 1) (c := uuP cs 2) (d := uuP cs 3) (e := uuP cs 4) (f := uuP cs 5) (by omega))
  unfold cdX
  exact mr_lt (rk_le ..) (mr_lt (rk_le ..) (mr_lt (rk_le ..) (mr_lt (rk_le ..) (mr_lt (rk_le ..) (Nat.lt_succ_of_le (rk_le ..))))))
/-- cells seen so far: so many, each by a point of it; P: what is to come -/
def SnC (cs : List Cut) (P : (Nat → Int) → Prop) (m : Nat) : Prop := ∃ l : List Nat, l.Nodup ∧ l.length = m ∧ ∀ c ∈ l, ∃ x, cdX cs x = c ∧ PtW x ∧ ¬ P x
theorem SnC.le {cs : List Cut} {P : (Nat → Int) → Prop} {m : Nat} (h : SnC cs P m) (hl : cs.length ≤ 36) : m ≤ 1000000 := by
  obtain ⟨l, h1, h2, h3⟩ := h
  rw [← h2]
  refine nd_len 1000000 l h1 (fun c hc => ?_)
  obtain ⟨x, hx, -⟩ := h3 c hc
  rw [← hx]
  exact cd_lt hl x
theorem SnC.one {cs : List Cut} {P P' : (Nat → Int) → Prop} {m : Nat} {β : Nat → Bool} (hW : CuW cs) (h : SnC cs P m) (hl : cs.length ≤ 36) (hN : NeP cs β cs.length) (h1 : ∀ x, PtW x → (P x ↔ agB cs β cs.length x ∨ P' x)) (h2 : ∀ x, agB cs β cs.length x → ¬ P' x) : SnC cs P' (m + 1) := by
  obtain ⟨l, l1, l2, l3⟩ := h
  obtain ⟨x0, p0, a0⟩ := ne_ex hW (Nat.le_refl _) hN
  refine ⟨cdX cs x0 :: l, List.nodup_cons.mpr ⟨fun q => ?_, l1⟩, by rw [List.length_cons, l2], fun c hc => ?_⟩
  · obtain ⟨x, e, px, nx⟩ := l3 _ q
    exact nx ((h1 x px).mpr (Or.inl (fun k hk => (cd_inj hW e hk).trans (a0 k hk))))
  · rcases List.mem_cons.mp hc with rfl | hc
    · exact ⟨x0, rfl, p0, h2 x0 a0⟩
    · obtain ⟨x, e, px, nx⟩ := l3 c hc
      exact ⟨x, e, px, fun q => nx ((h1 x px).mpr (Or.inr q))⟩
theorem SnC.zero {cs : List Cut} {P : (Nat → Int) → Prop} : SnC cs P 0 := ⟨[], List.nodup_nil, rfl, fun c hc => by cases hc⟩

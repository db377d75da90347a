/-! THE CLASS: kinds; the row by way 0 -/
def kfI (k a j : Nat) : Prop := ((a = 3 ∨ a = 4 ∨ a = 5) ∧ j = k) ∨ ((a = 7 ∨ a = 8) ∧ j / 24 % 24 = k) ∨ a = 9
/-- what making kind k may write -/
def KF (k : Nat) (σ τ : Sg) : Prop := τ.sh = σ.sh ∧ τ.l = σ.l ∧ τ.r = σ.r ∧ ∀ a j, ¬ kfI k a j → τ.i a j = σ.i a j
def KxS (ks : List Knd) (ps : List Nat) (k : Nat) (σ : Sg) : Prop := FX ΦC σ.sh σ.r ∧ WK ks σ ∧ (ks.length = k ∧ k ≤ 23) ∧ PaS ps k σ
/-- heads of the lists -/
def MgC (LL : List (List Nat)) (fr : Nat → Nat) (σ : Sg) : Prop := ∀ (j : Nat) l, LL[j]? = some l → σ.i 9 j = Int32.ofNat (fr j) ∧ fr j ≤ l.length
section MRG
variable {Z : zT} {d : Nat} {σ τ υ : Sg} {K : kS} {ks : List Knd} {ps : List Nat} {k : Nat} {fr : Nat → Nat}
theorem KF.refl (k : Nat) (σ : Sg) : KF k σ σ := ⟨rfl, rfl, rfl, fun _ _ _ => rfl⟩
theorem KF.tr (h : KF k σ τ) (g : KF k τ υ) : KF k σ υ := ⟨g.1.trans h.1, g.2.1.trans h.2.1, g.2.2.1.trans h.2.2.1, fun a j q => (g.2.2.2 a j q).trans (h.2.2.2 a j q)⟩
theorem KF.wi {a j : Nat} {v : Int32} (h : kfI k a j) : KF k σ (σ.wi a j v) := ⟨rfl, rfl, rfl, fun b i q => wi_ne (fun z => q (by rw [z.1, z.2]; exact h))⟩
theorem KF.rw {w i : Nat} {v : Int32} (hi : i < 24) (hk : k < 24) : KF k σ (σ.wi 7 ((w * 24 + k) * 24 + i) v) := KF.wi (Or.inr (Or.inl ⟨Or.inl rfl, by omega⟩))
theorem KxS.kf (h : KxS ks ps k σ) (g : KF k σ τ) : KxS ks ps k τ := by
  obtain ⟨f, w, hk, p1, p2, p3⟩ := h
  obtain ⟨g1, g2, g3, g4⟩ := g
  refine ⟨by rw [g1, g3]; exact f, w.keep (by omega) (fun j hj => ⟨g4 4 j ?_, g4 5 j ?_, fun v hv i hi => ⟨g4 7 _ ?_, g4 8 _ ?_⟩⟩), hk, (g4 2 4 (by unfold kfI; omega)).trans p1, p2, fun i p hp => ⟨(g4 6 i (by unfold kfI; omega)).trans (p3 i p hp).1, (p3 i p hp).2⟩⟩
  all_goals unfold kfI; omega
theorem KxS.ll (h : KxS ks ps k σ) {j : Nat} {l : List Nat} (hl : (ps.map (rwW ks 0) ++ [ps])[j]? = some l) : j < 25 ∧ l.length ≤ 24 ∧ ∀ z ∈ l, z < k := by
  obtain ⟨f, w, hk, p1, p2, p3⟩ := h
  have lj := (List.getElem?_eq_some_iff.mp hl).1
  rw [List.length_append, List.length_map, List.length_singleton] at lj
  refine ⟨by omega, ?_⟩
  by_cases z : j < ps.length
  · rw [List.getElem?_append_left (by rw [List.length_map]; omega), List.getElem?_map] at hl
    obtain ⟨p, e⟩ : ∃ p, ps[j]? = some p := ⟨_, List.getElem?_eq_getElem z⟩
    rw [e] at hl
    have hl := Option.some.inj hl
    subst hl
    have q2 := (p3 j p e).2
    obtain ⟨-, -, r3, r4⟩ := rw_ok w (p := p) (by omega) (w := 0) (by decide)
    exact ⟨by omega, fun z hz => by have := (r3 z).1 hz; omega⟩
  · have e : j = ps.length := by omega
    subst e
    rw [List.getElem?_append_right (by rw [List.length_map]; exact Nat.le_refl _), List.length_map, Nat.sub_self] at hl
    have e := Option.some.inj hl
    subst e
    exact ⟨p2, fun z hz => by
      obtain ⟨i, hi⟩ := List.mem_iff_getElem?.mp hz
      exact (p3 i z hi).2⟩
theorem bh_19 {y j : Nat} {l : List Nat} (X : KxS ks ps k σ) (hy : y < 24) (hj : (ps.map (rwW ks 0) ++ [ps])[j]? = some l) (h1 : ∀ i, fr j + 1 ≤ i → l[i]? = some y → K (.inl (some (.int 1))) σ) (h0 : (∀ i, fr j + 1 ≤ i → l[i]? ≠ some y) → C_X2_isBehindAHead_2 Z (d + 2) σ (Int32.ofNat y) (Int32.ofNat (j + 1)) K) : ∀ m i, l.length - i = m → fr j + 1 ≤ i → i ≤ l.length + 1 → (∀ i', fr j + 1 ≤ i' → i' < i → l[i']? ≠ some y) → C_X2_isBehindAHead_19 Z (d + 2) σ (Int32.ofNat y) (Int32.ofNat j) (Int32.ofNat i) K := by
  obtain ⟨b1, b2, b3⟩ := X.ll hj
  intro m
  induction m with
  | zero =>
    intro i hm hi hi2 hno
    refine T_X2_isBehindAHead_19 X.1 (cl_ll X.1 X.2.1 (by have := X.2.2.1; omega) X.2.2.2 l hj ?_)
    show (Int32.ofNat l.length ≤ Int32.ofNat i → _) ∧ (¬ Int32.ofNat l.length ≤ Int32.ofNat i → _)
    rw [oN_le (by omega) (by omega)]
    refine ⟨fun _ => ?_, fun z => absurd (by omega) z⟩
    rw [oN_1]
    refine h0 (fun i' q1 q2 => ?_)
    have := (List.getElem?_eq_some_iff.mp q2).1
    exact hno i' q1 (by omega) q2
  | succ m ih =>
    intro i hm hi hi2 hno
    refine T_X2_isBehindAHead_19 X.1 (cl_ll X.1 X.2.1 (by have := X.2.2.1; omega) X.2.2.2 l hj ?_)
    show (Int32.ofNat l.length ≤ Int32.ofNat i → _) ∧ (¬ Int32.ofNat l.length ≤ Int32.ofNat i → _)
    rw [oN_le (by omega) (by omega)]
    refine ⟨fun z => absurd z (by omega), fun _ => ?_⟩
    have hlt : i < l.length := by omega
    obtain ⟨v, hv⟩ : ∃ v, l[i]? = some v := ⟨_, List.getElem?_eq_getElem hlt⟩
    have vb := b3 v (List.mem_of_getElem? hv)
    have hk := X.2.2.1
    refine cl_il X.1 X.2.1 (by omega) X.2.2.2 l hj hv ?_
    show (¬ Int32.ofNat v = Int32.ofNat y → _) ∧ (Int32.ofNat v = Int32.ofNat y → _)
    rw [oN_eq (by omega) (by omega)]
    refine ⟨fun z => ?_, fun z => h1 i hi (by rw [hv, z])⟩
    rw [oN_1]
    refine ih (i + 1) (by omega) (by omega) (by omega) (fun i' q1 q2 q3 => ?_)
    by_cases e : i' = i
    · subst e
      rw [hv] at q3
      exact z (Option.some.inj q3)
    · exact hno i' q1 (by omega) q3
theorem bh_2 {y : Nat} (X : KxS ks ps k σ) (hM : MgC (ps.map (rwW ks 0) ++ [ps]) fr σ) (hy : y < 24) (h1 : Bhd (ps.map (rwW ks 0) ++ [ps]) fr 0 y → K (.inl (some (.int 1))) σ) (h0 : ¬ Bhd (ps.map (rwW ks 0) ++ [ps]) fr 0 y → K (.inl (some (.int 0))) σ) : ∀ m j, ps.length + 1 - j = m → j ≤ ps.length + 1 → (∀ j' l i, j' < j → (ps.map (rwW ks 0) ++ [ps])[j']? = some l → fr j' + 1 ≤ i → l[i]? ≠ some y) → C_X2_isBehindAHead_2 Z (d + 2) σ (Int32.ofNat y) (Int32.ofNat j) K := by
  have hl0 : (ps.map (rwW ks 0) ++ [ps]).length = ps.length + 1 := by rw [List.length_append, List.length_map]; rfl
  obtain ⟨p1, p2, -⟩ := X.2.2.2
  intro m
  induction m with
  | zero =>
    intro j hm hj hno
    refine T_X2_isBehindAHead_2 X.1 ?_
    rw [p1, oN_lt (by omega) (by omega)]
    refine ⟨fun _ => h0 (fun z => ?_), fun z => absurd (by omega) z⟩
    obtain ⟨j', l, i, -, q1, q2, q3⟩ := z
    have := (List.getElem?_eq_some_iff.mp q1).1
    exact hno j' l i (by omega) q1 q2 q3
  | succ m ih =>
    intro j hm hj hno
    have hlt : j < (ps.map (rwW ks 0) ++ [ps]).length := by omega
    obtain ⟨l, hl⟩ : ∃ l, (ps.map (rwW ks 0) ++ [ps])[j]? = some l := ⟨_, List.getElem?_eq_getElem hlt⟩
    obtain ⟨e1, e2⟩ := hM j l hl
    obtain ⟨b1, b2, b3⟩ := X.ll hl
    refine T_X2_isBehindAHead_2 X.1 ?_
    rw [p1, oN_lt (by omega) (by omega), oN_t (by omega), e1, oN_1]
    refine ⟨fun z => absurd z (by omega), fun _ => ⟨ib_oN (by omega) (by omega), ?_⟩⟩
    refine bh_19 (fr := fr) X hy hl (fun i q1 q2 => h1 ⟨j, l, i, Nat.zero_le _, hl, q1, q2⟩) (fun q => ih (j + 1) (by omega) (by omega) (fun j' l' i q1 q2 q3 q4 => ?_)) _ _ rfl (Nat.le_refl _) (by omega) (fun i' q1 q2 => by omega)
    by_cases e : j' = j
    · subst e
      rw [hl] at q2
      have := Option.some.inj q2
      subst this
      exact q i q3 q4
    · exact hno j' l' i (by omega) q2 q3 q4
/-- the first head that is free -/
theorem ff_2 (X : KxS ks ps k σ) (hM : MgC (ps.map (rwW ks 0) ++ [ps]) fr σ) (h1 : ∀ j y, Can (ps.map (rwW ks 0) ++ [ps]) fr j y → (∀ j' y', j' < j → ¬ Can (ps.map (rwW ks 0) ++ [ps]) fr j' y') → y < k → K (.inl (some (.int (Int32.ofNat y)))) σ) (h0 : (∀ j y, ¬ Can (ps.map (rwW ks 0) ++ [ps]) fr j y) → K (.inl (some (.int (-1)))) σ) : ∀ m j, ps.length + 1 - j = m → j ≤ ps.length + 1 → (∀ j' y', j' < j → ¬ Can (ps.map (rwW ks 0) ++ [ps]) fr j' y') → C_X2_firstFreeHead_2 Z (d + 3) σ (Int32.ofNat j) K := by
  have hl0 : (ps.map (rwW ks 0) ++ [ps]).length = ps.length + 1 := by rw [List.length_append, List.length_map]; rfl
  obtain ⟨p1, p2, -⟩ := X.2.2.2
  have hk := X.2.2.1
  intro m
  induction m with
  | zero =>
    intro j hm hj hno
    refine T_X2_firstFreeHead_2 X.1 ?_
    rw [p1, oN_lt (by omega) (by omega)]
    refine ⟨fun _ => h0 (fun j' y' z => ?_), fun z => absurd (by omega) z⟩
    obtain ⟨⟨l, a1, -⟩, -⟩ := id z
    have := (List.getElem?_eq_some_iff.mp a1).1
    exact hno j' y' (by omega) z
  | succ m ih =>
    intro j hm hj hno
    have hlt : j < (ps.map (rwW ks 0) ++ [ps]).length := by omega
    obtain ⟨l, hl⟩ : ∃ l, (ps.map (rwW ks 0) ++ [ps])[j]? = some l := ⟨_, List.getElem?_eq_getElem hlt⟩
    obtain ⟨e1, e2⟩ := hM j l hl
    obtain ⟨b1, b2, b3⟩ := X.ll hl
    have nx : (∀ y', ¬ Can (ps.map (rwW ks 0) ++ [ps]) fr j y') → C_X2_firstFreeHead_2 Z (d + 3) σ (Int32.ofNat j + 1) K := fun q => by
      rw [oN_1]
      refine ih (j + 1) (by omega) (by omega) (fun j' y' q1 q2 => ?_)
      by_cases e : j' = j
      · subst e
        exact q y' q2
      · exact hno j' y' (by omega) q2
    refine T_X2_firstFreeHead_2 X.1 ?_
    rw [p1, oN_lt (by omega) (by omega), oN_t (by omega), e1]
    refine ⟨fun z => absurd z (by omega), fun _ => ⟨ib_oN (by omega) (by omega), cl_ll X.1 X.2.1 (by omega) X.2.2.2 l hl ?_⟩⟩
    show (Int32.ofNat l.length ≤ Int32.ofNat (fr j) → _) ∧ (¬ Int32.ofNat l.length ≤ Int32.ofNat (fr j) → _)
    rw [oN_le (by omega) (by omega)]
    refine ⟨fun z => nx (fun y' q => ?_), fun z => ⟨ib_oN (by omega) (by omega), ?_⟩⟩
    · obtain ⟨⟨l', a1, a2⟩, -⟩ := q
      rw [hl] at a1
      have := Option.some.inj a1
      subst this
      have := (List.getElem?_eq_some_iff.mp a2).1
      omega
    · obtain ⟨y, hy⟩ : ∃ y, l[fr j]? = some y := ⟨_, List.getElem?_eq_getElem (by omega)⟩
      have yb := b3 y (List.mem_of_getElem? hy)
      rw [e1]
      refine cl_il X.1 X.2.1 (by omega) X.2.2.2 l hl hy (T_X2_isBehindAHead_0 X.1 (bh_2 X hM (by omega) (fun q => ⟨fun _ => nx (fun y' q' => ?_), fun z => absurd z (by decide)⟩) (fun q => ⟨fun z => absurd rfl z, fun _ => h1 j y ⟨⟨l, hl, hy⟩, q⟩ hno yb⟩) _ 0 rfl (Nat.zero_le _) (fun j' l' i q1 => by omega)))
      obtain ⟨⟨l', a1, a2⟩, a3⟩ := q'
      rw [hl] at a1
      have := Option.some.inj a1
      subst this
      rw [hy] at a2
      have := Option.some.inj a2
      subst this
      exact a3 q
/-- y goes from all heads -/
theorem mg_50 {y : Nat} {l2 : Int32} {σ0 : Sg} (X : KxS ks ps k σ0) (hy : y < k) (hK : ∀ υ, KF k σ0 υ → (∀ a, a ≠ 9 → υ.i a = σ0.i a) → MgC (ps.map (rwW ks 0) ++ [ps]) (frD (ps.map (rwW ks 0) ++ [ps]) fr y) υ → C_X2_merge_18 Z (d + 2) υ (Int32.ofNat k) (l2 + 1) K) : ∀ m j (τ : Sg), ps.length + 1 - j = m → j ≤ ps.length + 1 → KF k σ0 τ → (∀ a, a ≠ 9 → τ.i a = σ0.i a) → MgC (ps.map (rwW ks 0) ++ [ps]) (fun j' => if j' < j then frD (ps.map (rwW ks 0) ++ [ps]) fr y j' else fr j') τ → C_X2_merge_50 Z (d + 2) τ (Int32.ofNat k) l2 (Int32.ofNat y) (Int32.ofNat j) K := by
  have hl0 : (ps.map (rwW ks 0) ++ [ps]).length = ps.length + 1 := by rw [List.length_append, List.length_map]; rfl
  have hk := X.2.2.1
  intro m
  induction m with
  | zero =>
    intro j τ hm hj hF h7 hM
    have X1 := X.kf hF
    obtain ⟨p1, p2, -⟩ := X1.2.2.2
    refine T_X2_merge_50 X1.1 ?_
    rw [p1, oN_lt (by omega) (by omega)]
    refine ⟨fun _ => hK τ hF h7 (fun j' l hl => ?_), fun z => absurd (by omega) z⟩
    have := hM j' l hl
    have hjl := (List.getElem?_eq_some_iff.mp hl).1
    simp only [if_pos (show j' < j by omega)] at this
    exact this
  | succ m ih =>
    intro j τ hm hj hF h7 hM
    have X1 := X.kf hF
    obtain ⟨p1, p2, -⟩ := X1.2.2.2
    have hlt : j < (ps.map (rwW ks 0) ++ [ps]).length := by omega
    obtain ⟨l, hl⟩ : ∃ l, (ps.map (rwW ks 0) ++ [ps])[j]? = some l := ⟨_, List.getElem?_eq_getElem hlt⟩
    have hMj := hM j l hl
    simp only [if_neg (Nat.lt_irrefl j)] at hMj
    obtain ⟨e1, e2⟩ := hMj
    obtain ⟨b1, b2, b3⟩ := X1.ll hl
    have same : (frD (ps.map (rwW ks 0) ++ [ps]) fr y j = fr j) → C_X2_merge_50 Z (d + 2) τ (Int32.ofNat k) l2 (Int32.ofNat y) (Int32.ofNat j + 1) K := by
      intro es
      rw [oN_1]
      refine ih (j + 1) τ (by omega) (by omega) hF h7 fun j' l' hl' => ?_
      have := hM j' l' hl'
      by_cases g : j' < j
      · simp only [if_pos g] at this
        simp only [if_pos (show j' < j + 1 by omega)]
        exact this
      · by_cases g2 : j' = j
        · subst g2
          simp only [if_neg (Nat.lt_irrefl j')] at this
          simp only [if_pos (Nat.lt_succ_self j'), es]
          exact this
        · simp only [if_neg g] at this
          simp only [if_neg (show ¬ j' < j + 1 by omega)]
          exact this
    refine T_X2_merge_50 X1.1 ?_
    rw [p1, oN_lt (by omega) (by omega), oN_t (by omega), e1]
    refine ⟨fun z => absurd z (by omega), fun _ => ⟨ib_oN (by omega) (by omega), cl_ll X1.1 X1.2.1 (by omega) X1.2.2.2 l hl ?_⟩⟩
    show (Int32.ofNat l.length ≤ Int32.ofNat (fr j) → _) ∧ (¬ Int32.ofNat l.length ≤ Int32.ofNat (fr j) → _)
    rw [oN_le (by omega) (by omega)]
    refine ⟨fun z => same ?_, fun z => ⟨ib_oN (by omega) (by omega), ?_⟩⟩
    · rw [frD_at hl, if_neg (fun q => by have := (List.getElem?_eq_some_iff.mp q).1; omega)]
    · obtain ⟨v, hv⟩ : ∃ v, l[fr j]? = some v := ⟨_, List.getElem?_eq_getElem (by omega)⟩
      have vb := b3 v (List.mem_of_getElem? hv)
      rw [e1]
      refine cl_il X1.1 X1.2.1 (by omega) X1.2.2.2 l hl hv ?_
      show (¬ Int32.ofNat v = Int32.ofNat y → _) ∧ (Int32.ofNat v = Int32.ofNat y → _)
      rw [oN_eq (by omega) (by omega)]
      refine ⟨fun z2 => same ?_, fun z2 => ⟨ib_oN (by omega) (by omega), ib_oN (by omega) (by omega), ?_⟩⟩
      · rw [frD_at hl, hv, if_neg (fun q => z2 (Option.some.inj q))]
      · rw [e1, oN_1, oN_1]
        refine ih (j + 1) _ (by omega) (by omega) (hF.tr (KF.wi (Or.inr (Or.inr rfl)))) (fun a q => (wi_row q).trans (h7 a q)) fun j' l' hl' => ?_
        have := hM j' l' hl'
        by_cases g : j' = j
        · subst g
          have e : l' = l := Option.some.inj (hl'.symm.trans hl)
          subst e
          simp only [if_pos (Nat.lt_succ_self j')]
          rw [frD_at hl, hv, if_pos (by rw [z2])]
          exact ⟨wi_eq, by omega⟩
        · rw [wi_ne (fun q => g q.2)]
          by_cases g2 : j' < j
          · simp only [if_pos g2] at this
            simp only [if_pos (show j' < j + 1 by omega)]
            exact this
          · simp only [if_neg g2] at this
            simp only [if_neg (show ¬ j' < j + 1 by omega)]
            exact this
end MRG

/-! PURE: the nearest of those that apply -/
theorem fo_neg {nr : Nat → Nat → Int} {A : List Nat} (nd : A.Nodup) (tr : ∀ x ∈ A, ∀ y ∈ A, ∀ z ∈ A, nr x y = -1 → nr y z = -1 → nr x z = -1) (ir : ∀ x, nr x x ≠ -1) : 0 ≤ foI (frI nr A) ↔ ∃ b ∈ A, ∀ y ∈ A, y ≠ b → nr b y = -1 := by
  have fr : ∀ i, i < A.length → (frB nr A i = true ↔ ∀ y ∈ A, nr y (A.getD i 0) ≠ -1) := fun i hi => by
    have gi : A.getD i 0 = A[i] := by
      rw [List.getD_eq_getElem?_getD, List.getElem?_eq_getElem hi]
      rfl
    unfold frB
    rw [List.all_eq_true]
    constructor
    · intro q y hy
      obtain ⟨j, hj⟩ := List.mem_iff_getElem?.mp hy
      have jl := (List.getElem?_eq_some_iff.mp hj).1
      have := q j (List.mem_range.mpr jl)
      rw [Bool.or_eq_true, decide_eq_true_iff, decide_eq_true_iff, List.getD_eq_getElem?_getD, hj] at this
      rcases this with e | e
      · subst e
        have : A.getD i 0 = y := by
          rw [List.getD_eq_getElem?_getD, hj]
          rfl
        rw [this]
        exact ir y
      · exact e
    · intro q j hj
      have jl := List.mem_range.mp hj
      rw [Bool.or_eq_true, decide_eq_true_iff, decide_eq_true_iff]
      refine Or.inr (q _ ?_)
      rw [List.getD_eq_getElem?_getD, List.getElem?_eq_getElem jl]
      exact List.getElem_mem _
  have mem : ∀ i, i ∈ frI nr A ↔ i < A.length ∧ ∀ y ∈ A, nr y (A.getD i 0) ≠ -1 := fun i => by
    unfold frI
    rw [List.mem_filter, List.mem_range]
    exact ⟨fun q => ⟨q.1, (fr i q.1).mp q.2⟩, fun q => ⟨q.1, (fr i q.1).mpr q.2⟩⟩
  have ndf : (frI nr A).Nodup := List.Pairwise.sublist List.filter_sublist List.nodup_range
  constructor
  · intro h
    match e : frI nr A with
    | [] =>
      rw [e] at h
      exact absurd h (by decide)
    | [i] =>
      obtain ⟨i1, i2⟩ := (mem i).mp (by rw [e]; exact List.mem_singleton.mpr rfl)
      have gi : A.getD i 0 ∈ A := by
        rw [List.getD_eq_getElem?_getD, List.getElem?_eq_getElem i1]
        exact List.getElem_mem _
      refine ⟨A.getD i 0, gi, ord_one (lt := fun x y => nr x y = -1) tr ir gi (fun y hy hmin => ?_)⟩
      obtain ⟨j, hj⟩ := List.mem_iff_getElem?.mp hy
      have jl := (List.getElem?_eq_some_iff.mp hj).1
      have gj : A.getD j 0 = y := by
        rw [List.getD_eq_getElem?_getD, hj]
        rfl
      have : j ∈ frI nr A := (mem j).mpr ⟨jl, fun z hz => by rw [gj]; exact hmin z hz⟩
      rw [e, List.mem_singleton] at this
      rw [← gj, this]
    | a :: b :: r =>
      rw [e] at h
      exact absurd h (by show ¬ (0 : Int) ≤ -2; decide)
  · rintro ⟨b, hb, hn⟩
    obtain ⟨i, hi⟩ := List.mem_iff_getElem?.mp hb
    have il := (List.getElem?_eq_some_iff.mp hi).1
    have gi : A.getD i 0 = b := by
      rw [List.getD_eq_getElem?_getD, hi]
      rfl
    have im : i ∈ frI nr A := (mem i).mpr ⟨il, fun y hy q => by
      rw [gi] at q
      by_cases e : y = b
      · rw [e] at q
        exact ir b q
      · exact ir b (tr b hb y hy b hb (hn y hy e) q)⟩
    have un : ∀ j ∈ frI nr A, j = i := fun j hj => by
      obtain ⟨j1, j2⟩ := (mem j).mp hj
      have gj : A.getD j 0 = A[j] := by
        rw [List.getD_eq_getElem?_getD, List.getElem?_eq_getElem j1]
        rfl
      have : A[j] = b := Classical.byContradiction fun e => j2 b hb (by rw [gj]; exact hn _ (List.getElem_mem _) e)
      refine (List.getElem?_inj j1 nd).mp ?_
      rw [List.getElem?_eq_getElem j1, this, hi]
    match e : frI nr A with
    | [] =>
      rw [e] at im
      cases im
    | [j] =>
      show (0 : Int) ≤ (j : Int)
      omega
    | a :: b' :: r =>
      rw [e] at un ndf
      have e1 := un a (List.mem_cons_self ..)
      have e2 := un b' (List.mem_cons_of_mem _ (List.mem_cons_self ..))
      have := (List.nodup_cons.mp ndf).1
      exact absurd (by rw [e1, ← e2]; exact List.mem_cons_self ..) this
/-- each held against the best so far -/
def bsF (nr : Nat → Nat → Int) : List Nat → Nat → Nat
  | [], b => b
  | x :: r, b => bsF nr r (if nr x b = -1 then x else b)
theorem bs_mem (nr : Nat → Nat → Int) : ∀ (L : List Nat) (b : Nat), bsF nr L b = b ∨ bsF nr L b ∈ L
  | [], b => Or.inl rfl
  | x :: r, b => by
    rw [bsF]
    rcases bs_mem nr r (if nr x b = -1 then x else b) with e | e
    · by_cases q : nr x b = -1
      · rw [if_pos q] at e ⊢
        rw [e]
        exact Or.inr (List.mem_cons_self ..)
      · rw [if_neg q] at e ⊢
        exact Or.inl e
    · exact Or.inr (List.mem_cons_of_mem _ e)
theorem bs_near {nr : Nat → Nat → Int} {A : List Nat} (tr : ∀ x ∈ A, ∀ y ∈ A, ∀ z ∈ A, nr x y = -1 → nr y z = -1 → nr x z = -1) (ir : ∀ x, nr x x ≠ -1) {m : Nat} (hm : m ∈ A) (hn : ∀ y ∈ A, y ≠ m → nr m y = -1) : ∀ (L : List Nat) (b : Nat), (∀ x ∈ L, x ∈ A) → b ∈ A → (m ∈ L ∨ b = m) → bsF nr L b = m
  | [], b, _, _, h => by
    rcases h with h | h
    · cases h
    · exact h
  | x :: r, b, hL, hb, h => by
    rw [bsF]
    have hx := hL x (List.mem_cons_self ..)
    refine bs_near tr ir hm hn r _ (fun y hy => hL y (List.mem_cons_of_mem _ hy)) (by split; exact hx; exact hb) ?_
    by_cases e : b = m
    · subst e
      refine Or.inr (if_neg (fun q => ?_))
      by_cases e2 : x = b
      · rw [e2] at q
        exact ir b q
      · exact ir b (tr b hm x hx b hm (hn x hx e2) q)
    · rcases h with h | h
      · rcases List.mem_cons.mp h with rfl | h
        · exact Or.inr (if_pos (hn b hb e))
        · exact Or.inl h
      · exact absurd h e
section NEAR4
variable {Z : zT} {d A u : Nat} {σ σ0 τ υ : Sg} {K : kS} {C : Nat × Nat × Nat × Nat} {W : Wld} {wy a0 kA oA c m n : Nat} {k : Nat → Nat} {L : List Nat}
/-- what is known of a method that fits -/
theorem ft_at (h : SkR C W a0 σ) (hk : ∀ p, p < plW W.2.1 c → k p < W.1.length) (hm : m ∈ ftL W c k) : ∃ j x, m = j + 1 ∧ W.2.2.2[j]? = some x ∧ x.2 = false ∧ x.1.1 = (c : Int) ∧ (∀ p, p < plW W.2.1 c → kdW W.2.2.2 m p ∈ rwW W.1 1 (k p)) ∧ FtM W c k m := by
  unfold ftL at hm
  obtain ⟨h1, h2⟩ := List.mem_filter.mp hm
  obtain ⟨j, hj, rfl⟩ := List.mem_map.mp h1
  have hj := List.mem_range.mp hj
  have hx := List.getElem?_eq_getElem hj
  obtain ⟨h3, h4⟩ := Bool.and_eq_true_iff.mp h2
  unfold mnB at h3
  obtain ⟨h5, h6⟩ := Bool.and_eq_true_iff.mp h3
  have h5 := of_decide_eq_true h5
  have h6 := of_decide_eq_true h6
  have g2 : (W.2.2.2[j]).2 = false := by
    unfold gnW at h5
    rw [Nat.add_sub_cancel, hx] at h5
    dsimp only at h5
    cases e : (W.2.2.2[j]).2 with
    | false => rfl
    | true =>
      rw [e] at h5
      exact absurd h5 (by decide)
  have g1 := (spM_at hx).2.2
  have wf := (h.at hx).2.2
  obtain ⟨k0, w1, -⟩ := wf
  have ec : (W.2.2.2[j]).1.1 = (c : Int) := by
    rw [h6, w1, Int.toNat_natCast] at g1
    rw [w1, g1]
  unfold ftB at h4
  rw [h6, List.all_eq_true] at h4
  have ft : ∀ p, p < plW W.2.1 c → kdW W.2.2.2 (j + 1) p ∈ rwW W.1 1 (k p) := fun p hp => of_decide_eq_true (h4 p (List.mem_range.mpr hp))
  have p3 : plW W.2.1 c ≤ 3 := by
    have := (h.plx hx).1
    rw [ec, Int.toNat_natCast] at this
    exact this
  refine ⟨j, _, rfl, hx, g2, ec, ft, h6, fun p hp => ⟨hk p hp, ?_, ft p hp⟩⟩
  exact (kd_at h hx (p := p) (by omega)).2.2 (by rw [ec, Int.toNat_natCast]; exact hp)
/-- comparing two that fit -/
theorem cl_cmpF (h : QwS C W wy a0 σ) (ne : NeS W σ) (ka : KaS W kA (plW W.2.1 c) k σ) (hk : (kA < 46 ∨ 55 < kA) ∧ kA ≤ 101) (hm : m ∈ ftL W c k) (hn : n ∈ ftL W c k) (kk : ∀ τ, NhF σ τ → NeS W τ → K (.inl (some (.int (Int32.ofInt (nrI W wy m n k))))) τ) : C_X6_compare_0 Z (d + 4) σ (Int32.ofNat m) (Int32.ofNat n) kA K := by
  have kl : ∀ p, p < plW W.2.1 c → k p < W.1.length := fun p hp => (ka.2 p hp).2
  obtain ⟨j, x, rfl, hx, g1, g2, g3, -⟩ := ft_at h.1 kl hm
  obtain ⟨j', x', rfl, hx', -, g2', g3', -⟩ := ft_at h.1 kl hn
  have hpl : plW W.2.1 x.1.1.toNat = plW W.2.1 c := by rw [g2, Int.toNat_natCast]
  exact cl_compare h ne ka hk hx hx' g1 (g2.trans g2'.symm) hpl g3 g3' kk
theorem nr_m1 (W : Wld) (wy m n : Nat) (k : Nat → Nat) : (Int32.ofInt (nrI W wy m n k) < 0 ↔ nrI W wy m n k = -1) ∧ (0 ≤ Int32.ofInt (nrI W wy m n k) ↔ nrI W wy m n k ≠ -1) ∧ (0 < Int32.ofInt (nrI W wy m n k) ↔ nrI W wy m n k = 1) := by
  have r := nrI_r W wy m n k
  generalize nrI W wy m n k = i at r ⊢
  have : i = -1 ∨ i = 0 ∨ i = 1 := by omega
  rcases this with rfl | rfl | rfl <;> decide
/-- whether one is the nearest -/
theorem cl_hasNearest (hT : TrW W.1) (h : QwS C W wy a0 σ) (ne : NeS W σ) (ka : KaS W 71 (plW W.2.1 c) k σ) (hA : ∀ x ∈ L, x ∈ ftL W c k) (nd : L.Nodup) (hL : 1 ≤ L.length ∧ L.length ≤ 120) (e11 : σ.i 67 11 = Int32.ofNat L.length) (hr : RoS 74 L σ) (kk : ∀ τ, NhF σ τ → NeS W τ → K (.inl (some (.int (if 0 ≤ foI (frI (fun x y => nrI W wy x y k) L) then 1 else 0)))) τ) : C_X10_hasNearest_0 Z (d + 5) σ K := by
  have kl : ∀ p, p < plW W.2.1 c → k p < W.1.length := fun p hp => (ka.2 p hp).2
  have ml := h.1.2.2.2.2.1.2.1
  have ft : ∀ x ∈ L, FtM W c k x := fun x hx => by
    obtain ⟨j, y, -, -, -, -, -, q⟩ := ft_at h.1 kl (hA x hx)
    exact q
  have ir : ∀ x, nrI W wy x x k ≠ -1 := fun x => lt_irr x
  have tr : ∀ x ∈ L, ∀ y ∈ L, ∀ z ∈ L, nrI W wy x y k = -1 → nrI W wy y z k = -1 → nrI W wy x z k = -1 := fun x hx y hy z hz => lt_tr h.1.2.2.1.ro hT h.2.2.1.2 (ft x hx) (ft y hy) (ft z hz)
  have mb : ∀ x ∈ L, x ≤ 120 := fun x hx => by
    obtain ⟨j, y, rfl, q, -⟩ := ft_at h.1 kl (hA x hx)
    have := (List.getElem?_eq_some_iff.mp q).1
    omega
  have fo := fo_neg (nr := fun x y => nrI W wy x y k) nd tr ir
  have keep : ∀ τ, NhF σ τ → QwS C W wy a0 τ ∧ KaS W 71 (plW W.2.1 c) k τ ∧ τ.i 67 11 = Int32.ofNat L.length ∧ RoS 74 L τ := fun τ g => by
    refine ⟨h.nh ne.sq g, ka.nh ne.sq g (by omega), ?_, fun i y hy => ?_⟩
    · rw [(g.row h.1.1 ne.sq (a := 67) (by omega)).1]
      exact e11
    · rw [(g.row h.1.1 ne.sq (a := 74) (by omega)).1]
      exact hr i y hy
  -- the second loop
  have l53 : ∀ (b : Nat), b ∈ L → ((∃ m ∈ L, ∀ y ∈ L, y ≠ m → nrI W wy m y k = -1) → ∀ y ∈ L, y ≠ b → nrI W wy b y k = -1) → ∀ (r i : Nat) (τ : Sg), i + r = L.length → NhF σ τ → NeS W τ → (∀ i' y, i' < i → L[i']? = some y → y ≠ b → nrI W wy b y k = -1) → C_X10_hasNearest_53 Z (d + 5) τ (Int32.ofNat b) (Int32.ofNat i) K := by
    intro b hb hbn r
    induction r with
    | zero =>
      intro i τ hi g n' hd
      obtain ⟨q1, q2, q3, q4⟩ := keep τ g
      refine T_X10_hasNearest_53 q1.1.1 ?_
      rw [q3, oN_le (by omega) (by omega)]
      refine ⟨fun _ => ?_, fun z => absurd (by omega) z⟩
      have := kk τ g n'
      rw [if_pos (fo.mpr ⟨b, hb, fun y hy hne => by
        obtain ⟨j, hj⟩ := List.mem_iff_getElem?.mp hy
        exact hd j y (by have := (List.getElem?_eq_some_iff.mp hj).1; omega) hj hne⟩)] at this
      exact this
    | succ r ih =>
      intro i τ hi g n' hd
      obtain ⟨q1, q2, q3, q4⟩ := keep τ g
      have hi' := List.getElem?_eq_getElem (show i < L.length by omega)
      have ei := q4 i _ hi'
      have lm : L[i] ∈ L := List.getElem_mem _
      have b1 := mb _ lm
      have b2 := mb _ hb
      refine T_X10_hasNearest_53 q1.1.1 ?_
      rw [q3, oN_le (by omega) (by omega), oN_t (by omega), ei, oN_eq (by omega) (by omega), oN_1]
      refine ⟨fun z => absurd z (by omega), fun _ => ⟨ib_oN (by omega) (by decide), fun e => ih (i + 1) τ (by omega) g n' (fun i' y h1 h2 h3 => ?_), fun e => ⟨ib_oN (by omega) (by decide), ?_⟩⟩⟩
      · by_cases z : i' = i
        · subst z
          rw [hi'] at h2
          exact absurd ((Option.some.inj h2).symm.trans e) h3
        · exact hd i' y (by omega) h2 h3
      · refine cl_cmpF q1 n' q2 (by omega) (hA b hb) (hA _ lm) (fun τ2 g2 n2 => ?_)
        show (Int32.ofInt (nrI W wy b L[i] k) < 0 → _) ∧ (¬ Int32.ofInt (nrI W wy b L[i] k) < 0 → _)
        rw [(nr_m1 W wy b L[i] k).1]
        refine ⟨fun z => ih (i + 1) τ2 (by omega) (g.tr g2) n2 (fun i' y h1 h2 h3 => ?_), fun z => ?_⟩
        · by_cases w : i' = i
          · subst w
            rw [hi'] at h2
            rw [← Option.some.inj h2]
            exact z
          · exact hd i' y (by omega) h2 h3
        · have := kk τ2 (g.tr g2) n2
          rw [if_neg (fun w => z (hbn (fo.mp w) _ lm e))] at this
          exact this
  -- the first one
  have l9 : ∀ (r i : Nat) (τ : Sg) (b : Nat), i + r = L.length → b ∈ L → NhF σ τ → NeS W τ → bsF (fun x y => nrI W wy x y k) (L.drop i) b = bsF (fun x y => nrI W wy x y k) (L.drop 1) (L.headD 0) → C_X10_hasNearest_9 Z (d + 5) τ (Int32.ofNat b) (Int32.ofNat i) K := by
    intro r
    induction r with
    | zero =>
      intro i τ b hi hb g n' hd
      obtain ⟨q1, q2, q3, q4⟩ := keep τ g
      refine T_X10_hasNearest_9 q1.1.1 ?_
      rw [q3, oN_le (by omega) (by omega)]
      refine ⟨fun _ => l53 b hb (fun ⟨m, m1, m2⟩ => ?_) L.length 0 τ (by omega) g n' (fun i' y z => absurd z (Nat.not_lt_zero _)), fun z => absurd (by omega) z⟩
      rw [List.drop_of_length_le (by omega)] at hd
      have hd : b = bsF (fun x y => nrI W wy x y k) (L.drop 1) (L.headD 0) := hd
      have hh : L.headD 0 ∈ L ∧ (m ∈ L.drop 1 ∨ L.headD 0 = m) := by
        cases L with
        | nil => cases m1
        | cons a r =>
          refine ⟨List.mem_cons_self .., ?_⟩
          rcases List.mem_cons.mp m1 with e | e
          · exact Or.inr e.symm
          · exact Or.inl e
      have := bs_near tr ir m1 m2 (L.drop 1) (L.headD 0) (fun x hx => List.mem_of_mem_drop hx) hh.1 hh.2
      rw [hd, this]
      exact m2
    | succ r ih =>
      intro i τ b hi hb g n' hd
      obtain ⟨q1, q2, q3, q4⟩ := keep τ g
      have hi' := List.getElem?_eq_getElem (show i < L.length by omega)
      have ei := q4 i _ hi'
      have lm : L[i] ∈ L := List.getElem_mem _
      have ed : L.drop i = L[i] :: L.drop (i + 1) := (List.getElem_cons_drop (h := by omega)).symm
      rw [ed, bsF] at hd
      refine T_X10_hasNearest_9 q1.1.1 ?_
      rw [q3, oN_le (by omega) (by omega), oN_t (by omega), ei, oN_1]
      refine ⟨fun z => absurd z (by omega), fun _ => ⟨ib_oN (by omega) (by decide), ?_⟩⟩
      refine cl_cmpF q1 n' q2 (by omega) (hA _ lm) (hA b hb) (fun τ2 g2 n2 => ?_)
      obtain ⟨w1, w2, w3, w4⟩ := keep τ2 (g.tr g2)
      show (0 ≤ Int32.ofInt (nrI W wy L[i] b k) → _) ∧ (¬ 0 ≤ Int32.ofInt (nrI W wy L[i] b k) → _)
      rw [(nr_m1 W wy L[i] b k).2.1]
      refine ⟨fun z => ?_, fun z => ⟨ib_oN (by omega) (by decide), ?_⟩⟩
      · rw [if_neg z] at hd
        exact ih (i + 1) τ2 b (by omega) hb (g.tr g2) n2 hd
      · rw [if_pos (Classical.not_not.mp z)] at hd
        rw [w4 i _ hi']
        exact ih (i + 1) τ2 L[i] (by omega) lm (g.tr g2) n2 hd
  refine T_X10_hasNearest_0 h.1.1 ?_
  cases hL0 : L with
  | nil =>
    rw [hL0] at hL
    exact absurd hL.1 (by decide)
  | cons a r =>
    have e0 := hr 0 a (by rw [hL0]; rfl)
    rw [e0]
    refine l9 (L.length - 1) 1 σ a (by omega) (by rw [hL0]; exact List.mem_cons_self ..) (NhF.refl _) ne ?_
    rw [hL0]
    rfl
end NEAR4

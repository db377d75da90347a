/-! THE CLASS: methods in the heap; twins -/
/-- method m in the heap; its code ends before at -/
def MtC (C : Nat × Nat × Nat × Nat) (at' m : Nat) (x : Mtd × Bool) (σ : Sg) : Prop := σ.i 11 m = (if x.2 = true then -1 else Int32.ofInt x.1.1) ∧ σ.i 12 m = Int32.ofNat x.1.2.1 ∧ σ.i 13 m = Int32.ofInt x.1.2.2.1 ∧ SpL m x.1.2.2.2.1 σ ∧ TsC m x.1.2.2.2.2.1 σ ∧ ∃ S, σ.i 14 m = Int32.ofNat S ∧ 902 ≤ S ∧ S + (cdB x.1.2.2.2.2.2.1 false S 0).length + 1 ≤ at' ∧ CdH S C.2.1 C.2.2.1 C.2.2.2 (cdB x.1.2.2.2.2.2.1 false S 0 ++ [(25, 0, 0)]) σ
/-- how long the rows of code may be -/
def capK (c : Nat) : Prop := ∃ k, k ≤ 9 ∧ c = 1804 * 2 ^ k
theorem capK.le {c : Nat} (h : capK c) : 1804 ≤ c ∧ c ≤ 923648 := by
  obtain ⟨k, h1, rfl⟩ := h
  have : k = 0 ∨ k = 1 ∨ k = 2 ∨ k = 3 ∨ k = 4 ∨ k = 5 ∨ k = 6 ∨ k = 7 ∨ k = 8 ∨ k = 9 := by omega
  rcases this with rfl | rfl | rfl | rfl | rfl | rfl | rfl | rfl | rfl | rfl <;> decide
theorem capK.up {c : Nat} (h : capK c) (hc : c < 923648) : capK (2 * c) := by
  obtain ⟨k, h1, rfl⟩ := h
  refine ⟨k + 1, ?_, by rw [Nat.pow_succ]; omega⟩
  have : k ≠ 9 := fun e => by
    rw [e] at hc
    exact absurd hc (by decide)
  omega
def WMc (C : Nat × Nat × Nat × Nat) (at' : Nat) (ms : List (Mtd × Bool)) (σ : Sg) : Prop := σ.i 10 0 = Int32.ofNat ms.length ∧ ms.length ≤ 120 ∧ σ.i 24 3 = Int32.ofNat at' ∧ (902 ≤ at' ∧ at' < C.1 ∧ capK C.1) ∧ ∀ (m : Nat) x, ms[m]? = some x → MtC C at' (m + 1) x σ
theorem nil_is {x : Ast} : x.isNil = true ↔ x = .nil := by
  cases x <;> simp [Std.Format.isNil]
section TWN
variable {Z : zT} {d : Nat} {σ τ : Sg} {K : kS} {m n : Nat}
/-- SPECs that say the same -/
def skQ (s s' : List Spc) : Bool := (List.range 3).all fun i => Int32.ofInt (s.getD i (0, false, 0)).1 == Int32.ofInt (s'.getD i (0, false, 0)).1
def seQ (s s' : List Spc) : Bool := (List.range 3).all fun i => (s.getD i (0, false, 0)).2.1 == (s'.getD i (0, false, 0)).2.1 && (!(s.getD i (0, false, 0)).2.1 || Int32.ofInt (s.getD i (0, false, 0)).2.2 == Int32.ofInt (s'.getD i (0, false, 0)).2.2)
theorem cl_sameK {s s' : List Spc} (F : FX ΦC σ.sh σ.r) (hm : m < 122 ∧ n < 122) (h : SpL m s σ) (h' : SpL n s' σ) (k : K (.inl (some (.int (if skQ s s' = true then 1 else 0)))) σ) : C_X5_sameKinds_0 Z (d + 1) σ (Int32.ofNat m) (Int32.ofNat n) K := by
  have go : ∀ r j, 3 - j = r → j ≤ 3 → (∀ i, i < j → Int32.ofInt (s.getD i (0, false, 0)).1 = Int32.ofInt (s'.getD i (0, false, 0)).1) → C_X5_sameKinds_2 Z (d + 1) σ (Int32.ofNat m) (Int32.ofNat n) (Int32.ofNat j) K := by
    intro r
    induction r with
    | zero =>
      intro j hr hj hA
      refine T_X5_sameKinds_2 F ?_
      rw [show (3 : Int32) = Int32.ofNat 3 from rfl, oN_le (by decide) (by omega)]
      refine ⟨fun _ => ?_, fun z => absurd (by omega) z⟩
      have : skQ s s' = true := List.all_eq_true.mpr fun i hi => by
        rw [beq_iff_eq]
        exact hA i (by have := List.mem_range.mp hi; omega)
      rw [if_pos this] at k
      exact k
    | succ r ih =>
      intro j hr hj hA
      refine T_X5_sameKinds_2 F ?_
      rw [show (3 : Int32) = Int32.ofNat 3 from rfl, oN_le (by decide) (by omega), oN_mul, oN_add, oN_mul, oN_add, oN_t (by omega), oN_t (by omega), show m * 3 + j = 3 * m + j by omega, show n * 3 + j = 3 * n + j by omega, (h j (by omega)).1, (h' j (by omega)).1, oN_1]
      refine ⟨fun z => absurd z (by omega), fun _ => ⟨ib_oN (by omega) (by omega), ib_oN (by omega) (by omega), fun z => ih (j + 1) (by omega) (by omega) (fun i hi => ?_), fun z => ?_⟩⟩
      · by_cases e : i = j
        · rw [e]
          exact z
        · exact hA i (by omega)
      · have : skQ s s' ≠ true := fun q => z (by
          have := List.all_eq_true.mp q j (List.mem_range.mpr (by omega))
          rw [beq_iff_eq] at this
          exact this)
        rw [if_neg this] at k
        exact k
  exact T_X5_sameKinds_0 F (go 3 0 rfl (by decide) (fun i hi => by omega))
theorem se_iff {b b' : Bool} {v v' : Int32} : (b == b' && (!b || v == v')) = true ↔ ((if b = true then (1 : Int32) else 0) = (if b' = true then 1 else 0) ∧ (if b = true then v else 0) = (if b' = true then v' else 0)) := by
  cases b <;> cases b' <;> simp
theorem cl_sameE {s s' : List Spc} (F : FX ΦC σ.sh σ.r) (hm : m < 122 ∧ n < 122) (h : SpL m s σ) (h' : SpL n s' σ) (k : K (.inl (some (.int (if seQ s s' = true then 1 else 0)))) σ) : C_X5_sameEquals_0 Z (d + 1) σ (Int32.ofNat m) (Int32.ofNat n) K := by
  have go : ∀ r j, 3 - j = r → j ≤ 3 → (∀ i, i < j → ((s.getD i (0, false, 0)).2.1 == (s'.getD i (0, false, 0)).2.1 && (!(s.getD i (0, false, 0)).2.1 || Int32.ofInt (s.getD i (0, false, 0)).2.2 == Int32.ofInt (s'.getD i (0, false, 0)).2.2)) = true) → C_X5_sameEquals_2 Z (d + 1) σ (Int32.ofNat m) (Int32.ofNat n) (Int32.ofNat j) K := by
    intro r
    induction r with
    | zero =>
      intro j hr hj hA
      refine T_X5_sameEquals_2 F ?_
      rw [show (3 : Int32) = Int32.ofNat 3 from rfl, oN_le (by decide) (by omega)]
      refine ⟨fun _ => ?_, fun z => absurd (by omega) z⟩
      have : seQ s s' = true := List.all_eq_true.mpr fun i hi => hA i (by have := List.mem_range.mp hi; omega)
      rw [if_pos this] at k
      exact k
    | succ r ih =>
      intro j hr hj hA
      have bad : ¬ ((s.getD j (0, false, 0)).2.1 == (s'.getD j (0, false, 0)).2.1 && (!(s.getD j (0, false, 0)).2.1 || Int32.ofInt (s.getD j (0, false, 0)).2.2 == Int32.ofInt (s'.getD j (0, false, 0)).2.2)) = true → K (.inl (some (.int 0))) σ := fun z => by
        have : seQ s s' ≠ true := fun q => z (List.all_eq_true.mp q j (List.mem_range.mpr (by omega)))
        rw [if_neg this] at k
        exact k
      rw [se_iff] at bad
      refine T_X5_sameEquals_2 F ?_
      rw [show (3 : Int32) = Int32.ofNat 3 from rfl, oN_le (by decide) (by omega), oN_mul, oN_add, oN_mul, oN_add, oN_t (by omega), oN_t (by omega), show m * 3 + j = 3 * m + j by omega, show n * 3 + j = 3 * n + j by omega, (h j (by omega)).2.1, (h' j (by omega)).2.1, (h j (by omega)).2.2, (h' j (by omega)).2.2, oN_1]
      refine ⟨fun z => absurd z (by omega), fun _ => ⟨ib_oN (by omega) (by omega), ib_oN (by omega) (by omega), fun z => bad (fun q => z q.1), fun z => ⟨ib_oN (by omega) (by omega), ib_oN (by omega) (by omega), fun z2 => ih (j + 1) (by omega) (by omega) (fun i hi => ?_), fun z2 => bad (fun q => z2 q.2)⟩⟩⟩
      by_cases e : i = j
      · rw [e]
        exact se_iff.mpr ⟨z, z2⟩
      · exact hA i (by omega)
  exact T_X5_sameEquals_0 F (go 3 0 rfl (by decide) (fun i hi => by omega))
/-- the method that is being read, as far as twins want it -/
def TwH (m : Nat) (D : Mtd) (σ : Sg) : Prop := σ.i 11 m = Int32.ofInt D.1 ∧ σ.i 12 m = Int32.ofNat D.2.1 ∧ σ.i 13 m = Int32.ofInt D.2.2.1 ∧ SpL m D.2.2.2.1 σ ∧ σ.i 18 m = Int32.ofNat (lfN D.2.2.2.2.1) ∧ lfN D.2.2.2.2.1 ≤ 6 ∧ (D.2.2.2.2.1 ≠ .nil → 1 ≤ lfN D.2.2.2.2.1) ∧ (0 ≤ D.1 ∧ D.1 < 24)
theorem cl_twin {W : Wld} {C : Nat × Nat × Nat × Nat} {at' pl : Nat} {D : Mtd} (F : FX ΦC σ.sh σ.r) (hW : WfW W) (M : WMc C at' W.2.2.2 σ) (hD : TwH (W.2.2.2.length + 1) D σ) (hcs : W.2.1.length ≤ 24) (hpl : D.2.2.2.1.length = pl ∧ pl ≤ 3 ∧ plW W.2.1 D.1.toNat = pl) (k : K (.inl (some (.int (if twB W.2.2.2 D pl = true then 1 else 0)))) σ) : C_X5_hasTwin_0 Z (d + 2) σ (Int32.ofNat (W.2.2.2.length + 1)) K := by
  obtain ⟨d1, d2, d3, d4, d5, d6, d7, d8⟩ := hD
  obtain ⟨m1, m2, -, -, mm⟩ := M
  -- one method against it
  have one : ∀ (j : Nat) x, W.2.2.2[j]? = some x → D.2.2.2.2.1.isNil = true → ((!x.2 && Int32.ofInt x.1.1 == Int32.ofInt D.1 && x.1.2.2.2.2.1.isNil && Int32.ofNat x.1.2.1 == Int32.ofNat D.2.1 && Int32.ofInt x.1.2.2.1 == Int32.ofInt D.2.2.1 && (List.range pl).all fun i => spB (x.1.2.2.2.1.getD i (0, false, 0)) (D.2.2.2.1.getD i (0, false, 0))) = true ↔ (σ.i 11 (j + 1) = Int32.ofInt D.1 ∧ σ.i 12 (j + 1) = Int32.ofNat D.2.1 ∧ σ.i 13 (j + 1) = Int32.ofInt D.2.2.1 ∧ σ.i 18 (j + 1) = 0 ∧ skQ D.2.2.2.1 x.1.2.2.2.1 = true ∧ seQ D.2.2.2.1 x.1.2.2.2.1 = true)) := fun j x hx hN => by
    obtain ⟨c1, c2, c3, c4, ⟨c5, c6, -⟩, -⟩ := mm j x hx
    obtain ⟨q, w1, w2, w3, w4, w5, w6, w7, ⟨w8, -, w9, -⟩, -⟩ := hW.2.2 x (List.mem_of_getElem? hx)
    have w1 : x.1.1 = (q : Int) := w1
    have dN := nil_is.mp hN
    have sw : ∀ a b : Spc, spB a b = true ↔ (Int32.ofInt b.1 == Int32.ofInt a.1) = true ∧ (b.2.1 == a.2.1 && (!b.2.1 || Int32.ofInt b.2.2 == Int32.ofInt a.2.2)) = true := fun a b => by
      unfold spB
      obtain ⟨a1, a2, a3⟩ := a
      obtain ⟨b1, b2, b3⟩ := b
      have c1 : (Int32.ofInt a1 == Int32.ofInt b1) = (Int32.ofInt b1 == Int32.ofInt a1) := by
        rw [Bool.eq_iff_iff, beq_iff_eq, beq_iff_eq]
        exact ⟨Eq.symm, Eq.symm⟩
      have c3 : (Int32.ofInt a3 == Int32.ofInt b3) = (Int32.ofInt b3 == Int32.ofInt a3) := by
        rw [Bool.eq_iff_iff, beq_iff_eq, beq_iff_eq]
        exact ⟨Eq.symm, Eq.symm⟩
      dsimp only
      rw [c1, c3]
      cases a2 <;> cases b2 <;> simp only [Bool.and_eq_true, Bool.and_true, Bool.and_false, Bool.not_true, Bool.not_false, Bool.true_or, Bool.false_or, beq_self_eq_true, Bool.true_and, true_and, and_true, and_assoc] <;> simp
    have i18 : σ.i 18 (j + 1) = 0 ↔ x.1.2.2.2.2.1.isNil = true := by
      rw [c5, show (0 : Int32) = Int32.ofNat 0 from rfl, oN_eq (by omega) (by decide), nil_is]
      constructor
      · intro y
        refine Classical.byContradiction fun z => ?_
        have := w9 z
        omega
      · intro y
        rw [y]
        rfl
    have i11 : σ.i 11 (j + 1) = Int32.ofInt D.1 ↔ x.2 = false ∧ Int32.ofInt x.1.1 = Int32.ofInt D.1 := by
      rw [c1]
      cases x.2 with
      | true =>
        rw [if_pos rfl]
        constructor
        · intro y
          have := congrArg Int32.toInt y
          rw [Int32.toInt_ofInt, show Int32.size = 4294967296 from rfl, Int.bmod_eq_of_le (by omega) (by omega)] at this
          have : (-1 : Int) = D.1 := this
          omega
        · intro y
          cases y.1
      | false =>
        rw [if_neg (by decide)]
        exact ⟨fun y => ⟨rfl, y⟩, fun y => y.2⟩
    have pls : Int32.ofInt x.1.1 = Int32.ofInt D.1 → x.1.2.2.2.1.length = pl := fun y => by
      have := congrArg Int32.toInt y
      rw [Int32.toInt_ofInt, Int32.toInt_ofInt, show Int32.size = 4294967296 from rfl, Int.bmod_eq_of_le (by omega) (by omega), Int.bmod_eq_of_le (by omega) (by omega)] at this
      rw [w5, ← hpl.2.2, show D.1.toNat = q by omega]
    have all3 : x.1.2.2.2.1.length = pl → (((List.range pl).all fun i => spB (x.1.2.2.2.1.getD i (0, false, 0)) (D.2.2.2.1.getD i (0, false, 0))) = true ↔ skQ D.2.2.2.1 x.1.2.2.2.1 = true ∧ seQ D.2.2.2.1 x.1.2.2.2.1 = true) := fun lx => by
      unfold skQ seQ
      rw [List.all_eq_true, List.all_eq_true, List.all_eq_true]
      constructor
      · intro y
        have y' : ∀ i, i < 3 → spB (x.1.2.2.2.1.getD i (0, false, 0)) (D.2.2.2.1.getD i (0, false, 0)) = true := fun i hi => by
          by_cases z : i < pl
          · exact y i (List.mem_range.mpr z)
          · rw [List.getD_eq_getElem?_getD, List.getElem?_eq_none (by omega), List.getD_eq_getElem?_getD, List.getElem?_eq_none (by omega)]
            rfl
        exact ⟨fun i hi => ((sw _ _).mp (y' i (List.mem_range.mp hi))).1, fun i hi => ((sw _ _).mp (y' i (List.mem_range.mp hi))).2⟩
      · intro ⟨y1, y2⟩ i hi
        have := List.mem_range.mp hi
        exact (sw _ _).mpr ⟨y1 i (List.mem_range.mpr (by omega)), y2 i (List.mem_range.mpr (by omega))⟩
    rw [i11, c2, c3, i18]
    simp only [Bool.and_eq_true, Bool.not_eq_true', beq_iff_eq]
    constructor
    · intro ⟨⟨⟨⟨⟨y1, y2⟩, y3⟩, y4⟩, y5⟩, y6⟩
      exact ⟨⟨y1, y2⟩, y4, y5, y3, (all3 (pls y2)).mp y6⟩
    · intro ⟨⟨y1, y2⟩, y4, y5, y3, y6⟩
      exact ⟨⟨⟨⟨⟨y1, y2⟩, y3⟩, y4⟩, y5⟩, (all3 (pls y2)).mpr y6⟩
  have nN : D.2.2.2.2.1.isNil = true ↔ lfN D.2.2.2.2.1 = 0 := by
    rw [nil_is]
    constructor
    · intro y
      rw [y]
      rfl
    · intro y
      refine Classical.byContradiction fun z => ?_
      have := d7 z
      omega
  have go : ∀ r j, W.2.2.2.length - j = r → j ≤ W.2.2.2.length → (∀ (i : Nat) x, i < j → W.2.2.2[i]? = some x → D.2.2.2.2.1.isNil = true → (!x.2 && Int32.ofInt x.1.1 == Int32.ofInt D.1 && x.1.2.2.2.2.1.isNil && Int32.ofNat x.1.2.1 == Int32.ofNat D.2.1 && Int32.ofInt x.1.2.2.1 == Int32.ofInt D.2.2.1 && (List.range pl).all fun i => spB (x.1.2.2.2.1.getD i (0, false, 0)) (D.2.2.2.1.getD i (0, false, 0))) ≠ true) → C_X5_hasTwin_2 Z (d + 2) σ (Int32.ofNat (W.2.2.2.length + 1)) (Int32.ofNat (j + 1)) K := by
    intro r
    induction r with
    | zero =>
      intro j hr hj hA
      refine T_X5_hasTwin_2 F ?_
      rw [oN_le (by omega) (by omega)]
      refine ⟨fun _ => ?_, fun z => absurd (by omega) z⟩
      have : twB W.2.2.2 D pl ≠ true := fun y => by
        unfold twB at y
        obtain ⟨y1, y2⟩ := Bool.and_eq_true_iff.mp y
        obtain ⟨x, x1, x2⟩ := List.any_eq_true.mp y2
        obtain ⟨i, hi⟩ := List.mem_iff_getElem?.mp x1
        exact hA i x (by have := (List.getElem?_eq_some_iff.mp hi).1; omega) hi y1 x2
      rw [if_neg this] at k
      exact k
    | succ r ih =>
      intro j hr hj hA
      obtain ⟨x, hx⟩ : ∃ x, W.2.2.2[j]? = some x := ⟨_, List.getElem?_eq_getElem (by omega)⟩
      obtain ⟨c1, c2, c3, c4, ⟨c5, c6, -⟩, -⟩ := mm j x hx
      have nx : ¬ (σ.i 11 (j + 1) = Int32.ofInt D.1 ∧ σ.i 12 (j + 1) = Int32.ofNat D.2.1 ∧ σ.i 13 (j + 1) = Int32.ofInt D.2.2.1 ∧ σ.i 18 (j + 1) = 0 ∧ skQ D.2.2.2.1 x.1.2.2.2.1 = true ∧ seQ D.2.2.2.1 x.1.2.2.2.1 = true) ∨ ¬ lfN D.2.2.2.2.1 = 0 → C_X5_hasTwin_2 Z (d + 2) σ (Int32.ofNat (W.2.2.2.length + 1)) (Int32.ofNat (j + 1) + 1) K := fun z => by
        rw [oN_1]
        refine ih (j + 1) (by omega) (by omega) (fun i y hi hy hN q => ?_)
        by_cases e : i = j
        · subst e
          have : x = y := Option.some.inj (hx.symm.trans hy)
          subst this
          rcases z with z | z
          · exact z ((one i x hx hN).mp q)
          · exact z (nN.mp hN)
        · exact hA i y (by omega) hy hN q
      refine T_X5_hasTwin_2 F ?_
      rw [oN_le (by omega) (by omega), oN_t (by omega), oN_t (by omega), d1, d2, d3, d5]
      refine ⟨fun z => absurd z (by omega), fun _ => ⟨ib_oN (by omega) (by omega), ib_oN (by omega) (by omega), fun z => nx (Or.inl fun y => z y.1), fun z1 => ⟨ib_oN (by omega) (by omega), ib_oN (by omega) (by omega), fun z => nx (Or.inl fun y => z y.2.1), fun z2 => ⟨ib_oN (by omega) (by omega), ib_oN (by omega) (by omega), fun z => nx (Or.inl fun y => z y.2.2.1), fun z3 => ⟨ib_oN (by omega) (by omega), fun z => nx (Or.inl fun y => z y.2.2.2.1), fun z4 => ⟨ib_oN (by omega) (by omega), fun z => nx (Or.inr fun y => z (by rw [y]; rfl)), fun z5 => cl_sameK F ⟨by omega, by omega⟩ d4 c4 ⟨fun z => nx (Or.inl fun y => ?_), fun z6 => cl_sameE F ⟨by omega, by omega⟩ d4 c4 ⟨fun z => nx (Or.inl fun y => ?_), fun z7 => ?_⟩⟩⟩⟩⟩⟩⟩⟩
      · rw [if_pos y.2.2.2.2.1] at z
        exact absurd z (by decide)
      · rw [if_pos y.2.2.2.2.2] at z
        exact absurd z (by decide)
      · have e6 : skQ D.2.2.2.1 x.1.2.2.2.1 = true := Classical.byContradiction fun y => z6 (if_neg y)
        have e7 : seQ D.2.2.2.1 x.1.2.2.2.1 = true := Classical.byContradiction fun y => z7 (if_neg y)
        have l0 : lfN D.2.2.2.2.1 = 0 := (oN_eq (by omega) (by decide)).mp z5
        have : twB W.2.2.2 D pl = true := by
          unfold twB
          exact Bool.and_eq_true_iff.mpr ⟨nN.mpr l0, List.any_eq_true.mpr ⟨x, List.mem_of_getElem? hx, (one j x hx (nN.mpr l0)).mpr ⟨z1, z2, z3, z4, e6, e7⟩⟩⟩
        rw [if_pos this] at k
        exact k
  exact T_X5_hasTwin_0 F (go _ 0 rfl (Nat.zero_le _) (fun i x hi => by omega))
end TWN

/-! THE CLASS: the plan of a call -/
noncomputable def ndZ (W : Wld) (c oo : Nat) : Nat → Nat
  | 0 => 0
  | n + 1 => ndZ W c oo n + cnZ W c oo n
def isOZ (pl oo : Nat) : Bool := (List.range 3).all fun i => decide (i < pl) || decide (opC oo i = i)
noncomputable def opZ (W : Wld) (c : Nat) : Nat → Nat × Nat
  | 0 => (0, 2147483647)
  | i + 1 => if isOZ (plW W.2.1 c) i = true ∧ ndZ W c i (plW W.2.1 c) < (opZ W c i).2 then (i, ndZ W c i (plW W.2.1 c)) else opZ W c i
theorem nd_link {W : Wld} {c o : Nat} (h1 : 1 ≤ plW W.2.1 c) (h3 : plW W.2.1 c ≤ 3) (ho : o < ocN (plW W.2.1 c)) : ∀ n, n ≤ plW W.2.1 c → ndZ W c (ooM (plW W.2.1 c) o) n = ndN W c o n
  | 0, _ => rfl
  | n + 1, h => by
    obtain ⟨o1, o2, o3⟩ := op_eq h1 h3 ho
    rw [ndZ, ndN, nd_link h1 h3 ho n (by omega), cn_nod (by omega) h3 o2 o3]
theorem ndN_b {W : Wld} (h24 : W.1.length ≤ 24) {c o : Nat} (h3 : plW W.2.1 c ≤ 3) : ndN W c o (plW W.2.1 c) < 2147483647 := by
  have := ndN_le W h24 c o (plW W.2.1 c)
  omega
theorem op_link {W : Wld} (h24 : W.1.length ≤ 24) {c : Nat} (h1 : 1 ≤ plW W.2.1 c) (h3 : plW W.2.1 c ≤ 3) : opZ W c 6 = (ooM (plW W.2.1 c) (orN W c), (orW W c (ocN (plW W.2.1 c))).2) := by
  have nl : ∀ o, o < ocN (plW W.2.1 c) → ndZ W c (ooM (plW W.2.1 c) o) (plW W.2.1 c) = ndN W c o (plW W.2.1 c) := fun o ho => nd_link h1 h3 ho _ (Nat.le_refl _)
  have nb : ∀ o, ndN W c o (plW W.2.1 c) < 2147483647 := fun o => ndN_b h24 h3
  have hp : plW W.2.1 c = 1 ∨ plW W.2.1 c = 2 ∨ plW W.2.1 c = 3 := by omega
  unfold orN
  rcases hp with e | e | e
  · rw [e] at nl nb ⊢
    have n0 := nl 0 (by decide)
    have b0 := nb 0
    rw [show ooM 1 0 = 0 from rfl] at n0
    simp only [opZ, e, show isOZ 1 0 = true by decide, show isOZ 1 1 = false by decide, show isOZ 1 2 = false by decide, show isOZ 1 3 = false by decide, show isOZ 1 4 = false by decide, show isOZ 1 5 = false by decide, Bool.false_eq_true, false_and, if_false, true_and, show ocN 1 = 1 from rfl, orW, true_or, if_true, n0, if_pos b0]
    rfl
  · rw [e] at nl nb ⊢
    have n0 := nl 0 (by decide)
    have n1 := nl 1 (by decide)
    have b0 := nb 0
    rw [show ooM 2 0 = 0 from rfl] at n0
    rw [show ooM 2 1 = 2 from rfl] at n1
    simp only [opZ, e, show isOZ 2 0 = true by decide, show isOZ 2 1 = false by decide, show isOZ 2 2 = true by decide, show isOZ 2 3 = false by decide, show isOZ 2 4 = false by decide, show isOZ 2 5 = false by decide, Bool.false_eq_true, false_and, if_false, true_and, show ocN 2 = 2 from rfl, orW, true_or, if_true, n0, n1, if_pos b0, Nat.one_ne_zero, false_or, show (0 + 1 : Nat) = 1 from rfl]
    by_cases q : ndN W c 1 2 < ndN W c 0 2
    · rw [if_pos q, if_pos q]
      rfl
    · rw [if_neg q, if_neg q]
      rfl
  · rw [e] at nl nb ⊢
    have ng : ∀ o, o < 6 → ndZ W c o 3 = ndN W c o 3 := fun o ho => nl o ho
    have iso : ∀ i, i < 6 → isOZ 3 i = true := fun i hi => by
      have : ∀ i : Fin 6, isOZ 3 i.val = true := by decide
      exact this ⟨i, hi⟩
    have st : ∀ i, i ≤ 6 → 1 ≤ i → opZ W c i = orW W c i := by
      intro i
      induction i with
      | zero => intro _ h; omega
      | succ i ih =>
        intro hi _
        rw [opZ, orW, e, iso i (by omega), ng i (by omega)]
        by_cases z : i = 0
        · subst z
          rw [if_pos ⟨rfl, nb 0⟩, if_pos (Or.inl rfl)]
        · rw [ih (by omega) (by omega)]
          by_cases q : ndN W c i 3 < (orW W c i).2
          · rw [if_pos ⟨rfl, q⟩, if_pos (Or.inr q)]
          · rw [if_neg (fun y => q y.2), if_neg (fun y => y.elim z q)]
    rw [st 6 (by omega) (by omega)]
    rfl
theorem fl_flip {f g : Nat → Bool} {c : Nat} (h1 : f c = true) (h2 : g c = false) (h3 : ∀ x, x ≠ c → g x = f x) : ∀ n, c < n → ((List.range n).filter g).length + 1 = ((List.range n).filter f).length
  | 0, h => absurd h (Nat.not_lt_zero _)
  | n + 1, h => by
    rw [List.range_succ, List.filter_append, List.filter_append, List.length_append, List.length_append]
    by_cases e : n = c
    · subst e
      have same : (List.range n).filter g = (List.range n).filter f := List.filter_congr (fun x hx => h3 x (by have := List.mem_range.mp hx; omega))
      rw [same, List.filter_cons_of_pos h1, List.filter_cons_of_neg (by rw [h2]; exact Bool.false_ne_true)]
      rfl
    · have ih := fl_flip h1 h2 h3 n (by omega)
      have : ([n].filter g).length = ([n].filter f).length := by
        rw [List.filter_cons, List.filter_cons, h3 n e]
        rfl
      omega
/-- calls without a plan -/
def upN (σ : Sg) : Nat := ((List.range 24).filter fun c => decide (σ.i 57 c ≠ σ.i 1 16)).length
/-- plans that stand are right -/
def LiS (W : Wld) (σ : Sg) : Prop := (∀ c, c < W.2.1.length → σ.i 57 c = σ.i 1 16 → LvS W c σ ∧ σ.i 62 c = Int32.ofNat (3 * (opZ W c 6).1) ∧ σ.i 63 c = Int32.ofNat (opZ W c 6).2) ∧ ∀ c, c < 24 → (σ.i 57 c).toInt ≤ (σ.i 1 16).toInt
section PLAN
variable {Z : zT} {d A u : Nat} {σ σ0 τ υ : Sg} {K : kS} {C : Nat × Nat × Nat × Nat} {V V0 V' V2 : Nat × Nat × Nat × Nat} {W : Wld} {wy a0 j j' kA pl w c oo as' : Nat} {k k' : Nat → Nat} {S : List (Int64 × Int64)}
/-- the world, as lists read it -/
def LqS (C : Nat × Nat × Nat × Nat) (W : Wld) (wy a0 : Nat) (V : Nat × Nat × Nat × Nat) (u : Nat) (σ : Sg) : Prop := QwS C W wy a0 σ ∧ CvN C V σ ∧ (∃ S, SetC σ V u S) ∧ LiS W σ
/-- what plans and sets leave as it is -/
def LpF (V V' : Nat × Nat × Nat × Nat) (σ τ : Sg) : Prop := GwF (fun a => seE V a ∨ (57 ≤ a ∧ a ≤ 63)) σ τ ∧ S6F σ τ ∧ SzG σ τ V.1 V'.1 ∧ (V'.2.1 = V.2.1 ∨ σ.sh.length ≤ V'.2.1) ∧ (V'.2.2.1 = V.2.2.1 ∨ σ.sh.length ≤ V'.2.2.1) ∧ (V'.2.2.2 = V.2.2.2 ∨ σ.sh.length ≤ V'.2.2.2)
theorem LpF.refl (V : Nat × Nat × Nat × Nat) (σ : Sg) : LpF V V σ σ := ⟨GwF.refl _ _, fun _ _ _ => rfl, SzG.refl rfl, Or.inl rfl, Or.inl rfl, Or.inl rfl⟩
theorem LpF.tr (h : LpF V V' σ τ) (g : LpF V' V2 τ υ) : LpF V V2 σ υ := by
  obtain ⟨h1, h2, h3, h4, h5, h6⟩ := h
  obtain ⟨g1, g2, g3, g4, g5, g6⟩ := g
  have hl := h1.len
  refine ⟨h1.tr g1 (fun a ha q => ?_), fun k q1 q2 => (g2 k q1 q2).trans (h2 k q1 q2), h3.tr g3, by omega, by omega, by omega⟩
  unfold seE at q ⊢
  omega
theorem LsF.lp (h : LsF V V' σ τ) : LpF V V' σ τ := ⟨h.1.mono (fun a _ q => Or.inl q), h.2⟩
theorem XF.lp {E : Nat → Prop} (V : Nat × Nat × Nat × Nat) (h : XF E σ τ) (hE : ∀ a, E a → 57 ≤ a ∧ a ≤ 63) : LpF V V σ τ := ⟨h.gf.mono (fun a _ q => Or.inr (hE a q)), fun k _ _ => congrFun (h.2.2 56 (fun q => by have := hE 56 q; omega)).1 k, SzG.refl h.1, Or.inl rfl, Or.inl rfl, Or.inl rfl⟩
theorem SetC.xf {E : Nat → Prop} (H : SetC σ V u S) (h : XF E σ τ) (hE : ∀ a, E a → 57 ≤ a ∧ a ≤ 63) : SetC τ V u S := by
  have A := H.1
  obtain ⟨-, -, -, -, p8, p9, p10, -⟩ := A
  have e : ∀ a, a = 56 ∨ a = V.2.1 ∨ a = V.2.2.1 ∨ a = V.2.2.2 → τ.i a = σ.i a ∧ τ.l a = σ.l a := fun a ha => h.2.2 a (fun q => by have := hE a q; omega)
  obtain ⟨A, h2, h3, h4, h5, h6⟩ := H
  unfold SetC
  rw [(e 56 (by omega)).1, (e V.2.2.2 (by omega)).1, (e V.2.1 (by omega)).2, (e V.2.2.1 (by omega)).2]
  exact ⟨A.xf h, h2, h3, h4, h5, h6⟩
theorem cl_isOrder (F : FX ΦC σ.sh σ.r) (hoo : oo < 6) (hp : 1 ≤ pl ∧ pl ≤ 3) (kk : K (.inl (some (.int (if isOZ pl oo = true then 1 else 0)))) σ) : C_X3_isOrderOf_0 Z (d + 1) σ (Int32.ofNat (3 * oo)) (Int32.ofNat pl) K := by
  have iso : isOZ pl oo = true ↔ ∀ i, i < 3 → pl ≤ i → opC oo i = i := by
    unfold isOZ
    rw [List.all_eq_true]
    constructor
    · intro q i h1 h2
      have := q i (List.mem_range.mpr h1)
      rw [decide_eq_false (by omega), Bool.false_or] at this
      exact of_decide_eq_true this
    · intro q i h1
      by_cases z : i < pl
      · rw [decide_eq_true z]
        rfl
      · rw [q i (List.mem_range.mp h1) (by omega), decide_eq_true (show i = i from rfl), Bool.or_true]
  have lp : ∀ r i, i + r = 3 → pl ≤ i → (∀ i', pl ≤ i' → i' < i → opC oo i' = i') → C_X3_isOrderOf_2 Z (d + 1) σ (Int32.ofNat (3 * oo)) (Int32.ofNat i) K := by
    intro r
    induction r with
    | zero =>
      intro i hi h1 h2
      have : i = 3 := by omega
      subst this
      refine T_X3_isOrderOf_2 F ⟨fun _ => ?_, fun z => absurd (by decide) z⟩
      rw [if_pos (iso.mpr (fun i h3 h4 => h2 i h4 h3))] at kk
      exact kk
    | succ r ih =>
      intro i hi h1 h2
      refine T_X3_isOrderOf_2 F ?_
      rw [show (3 : Int32) ≤ Int32.ofNat i ↔ 3 ≤ i from oN_le (a := 3) (by decide) (by omega), oN_add, oN_1]
      have ol := opC_lt (oo := oo) (n := i)
      refine ⟨fun z => absurd z (by omega), fun _ => ⟨Int32.ofNat (opC oo i), xJ_3 (by omega), ?_⟩⟩
      rw [oN_eq (by omega) (by omega)]
      refine ⟨fun e => ih (i + 1) (by omega) (by omega) (fun i' q1 q2 => ?_), fun e => ?_⟩
      · by_cases z : i' = i
        · rw [z]
          exact e
        · exact h2 i' q1 (by omega)
      · rw [if_neg (fun z => e (iso.mp z i (by omega) h1))] at kk
        exact kk
  exact T_X3_isOrderOf_0 F (lp (3 - pl) pl (by omega) (Nat.le_refl _) (fun i' q1 q2 => by omega))
/-- the nodes of one order -/
theorem pn_74 (hc : c < W.2.1.length) (hoo : oo < 6) (ho : ∀ n, n < plW W.2.1 c → opC oo n < plW W.2.1 c) (u0 : Nat) (hu : u0 + 3 < 2147483648) (kk : ∀ τ V' u', QwS C W wy a0 τ → CvN C V' τ → (∃ S, SetC τ V' u' S) → LsF V V' σ τ → LvS W c τ → u' ≤ u0 + 3 → ndZ W c oo (plW W.2.1 c) ≤ 41472 → ((τ.i 63 c ≤ Int32.ofNat (ndZ W c oo (plW W.2.1 c)) → C_X3_plan_45 Z (d + 4) τ (Int32.ofNat c) (Int32.ofNat (3 * (oo + 1))) K) ∧ (¬ τ.i 63 c ≤ Int32.ofNat (ndZ W c oo (plW W.2.1 c)) → C_X3_plan_45 Z (d + 4) ((τ.wi 63 c (Int32.ofNat (ndZ W c oo (plW W.2.1 c)))).wi 62 c (Int32.ofNat (3 * oo))) (Int32.ofNat c) (Int32.ofNat (3 * (oo + 1))) K))) : ∀ (r n : Nat) (τ : Sg) (V' : Nat × Nat × Nat × Nat) (u' : Nat), n + r = plW W.2.1 c → QwS C W wy a0 τ → CvN C V' τ → (∃ S, SetC τ V' u' S) → LsF V V' σ τ → LvS W c τ → u' ≤ u0 + n → ndZ W c oo n ≤ 13824 * n → C_X3_plan_74 Z (d + 4) τ (Int32.ofNat c) (Int32.ofNat (3 * oo)) (Int32.ofNat (ndZ W c oo n)) (Int32.ofNat n) K := by
  intro r
  induction r with
  | zero =>
    intro n τ V' u' hn hq cv hs lf hl hu' hb
    obtain ⟨c24, ec, p1, p3⟩ := hq.cx hc
    have en : n = plW W.2.1 c := by omega
    subst en
    obtain ⟨k1, k2⟩ := kk τ V' u' hq cv hs lf hl (by omega) (by omega)
    refine T_X3_plan_74 hq.1.1 ?_
    rw [oN_t (by omega), ec, show (3 : Int32) = Int32.ofNat 3 from rfl, oN_add, show 3 * oo + 3 = 3 * (oo + 1) by omega]
    exact ⟨ib_oN c24 (by decide), fun _ => ⟨ib_oN c24 (by decide), k1, fun z => ⟨ib_oN c24 (by decide), ib_oN c24 (by decide), k2 z⟩⟩, fun z => absurd (Int32.le_refl _) z⟩
  | succ r ih =>
    intro n τ V' u' hn hq cv hs lf hl hu' hb
    obtain ⟨c24, ec, p1, p3⟩ := hq.cx hc
    refine T_X3_plan_74 hq.1.1 ?_
    rw [oN_t (by omega), ec, oN_le (by omega) (by omega), oN_1]
    refine ⟨ib_oN c24 (by decide), fun z => absurd z (by omega), fun _ => ?_⟩
    obtain ⟨S, hS⟩ := hs
    refine cl_countSets hc hoo ho (by omega) hq cv hS hl (by omega) (fun υ V2 S2 q1 q2 q3 q4 q5 q6 => ?_)
    show C_X3_plan_74 Z (d + 4) υ (Int32.ofNat c) (Int32.ofNat (3 * oo)) (Int32.ofNat (ndZ W c oo n) + Int32.ofNat (cnZ W c oo n)) (Int32.ofNat (n + 1)) K
    rw [oN_add]
    exact ih (n + 1) υ V2 (u' + 1) (by omega) q1 q2 ⟨S2, q3⟩ (lf.tr q4) q5 (by omega) (by rw [ndZ]; omega)
/-- over the orders -/
theorem pn_45 (hc : c < W.2.1.length) (u0 : Nat) (hu : u0 + 18 < 2147483648) (kk : ∀ τ V' u', QwS C W wy a0 τ → CvN C V' τ → (∃ S, SetC τ V' u' S) → LpF V V' σ τ → LvS W c τ → τ.i 57 = σ.i 57 → (∀ c', c' ≠ c → τ.i 62 c' = σ.i 62 c' ∧ τ.i 63 c' = σ.i 63 c') → (τ.l 58 = σ.l 58 ∧ τ.l 59 = σ.l 59 ∧ τ.l 60 = σ.l 60 ∧ τ.l 61 = σ.l 61) → u' ≤ u0 + 18 → τ.i 62 c = Int32.ofNat (3 * (opZ W c 6).1) → τ.i 63 c = Int32.ofNat (opZ W c 6).2 → K (.inl none) τ) : ∀ (r n : Nat) (τ : Sg) (V' : Nat × Nat × Nat × Nat) (u' : Nat), n + r = 6 → QwS C W wy a0 τ → CvN C V' τ → (∃ S, SetC τ V' u' S) → LpF V V' σ τ → LvS W c τ → τ.i 57 = σ.i 57 → (∀ c', c' ≠ c → τ.i 62 c' = σ.i 62 c' ∧ τ.i 63 c' = σ.i 63 c') → (τ.l 58 = σ.l 58 ∧ τ.l 59 = σ.l 59 ∧ τ.l 60 = σ.l 60 ∧ τ.l 61 = σ.l 61) → u' ≤ u0 + 3 * n → (1 ≤ n → τ.i 62 c = Int32.ofNat (3 * (opZ W c n).1)) → τ.i 63 c = Int32.ofNat (opZ W c n).2 ∧ (opZ W c n).2 < 2147483648 → C_X3_plan_45 Z (d + 4) τ (Int32.ofNat c) (Int32.ofNat (3 * n)) K := by
  intro r
  induction r with
  | zero =>
    intro n τ V' u' hn hq cv hs lf hl e57 e6 e58 hu' e62 e63
    have en : n = 6 := by omega
    subst en
    exact T_X3_plan_45 hq.1.1 ⟨fun _ => kk τ V' u' hq cv hs lf hl e57 e6 e58 (by omega) (e62 (by omega)) e63.1, fun z => absurd (by decide) z⟩
  | succ r ih =>
    intro n τ V' u' hn hq cv hs lf hl e57 e6 e58 hu' e62 e63
    obtain ⟨c24, ec, p1, p3⟩ := hq.cx hc
    refine T_X3_plan_45 hq.1.1 ?_
    rw [show (18 : Int32) ≤ Int32.ofNat (3 * n) ↔ 18 ≤ 3 * n from oN_le (a := 18) (by decide) (by omega), oN_t (by omega), ec, show (3 : Int32) = Int32.ofNat 3 from rfl, oN_add, show 3 * n + 3 = 3 * (n + 1) by omega]
    refine ⟨fun z => absurd z (by omega), fun _ => ⟨ib_oN c24 (by decide), cl_isOrder hq.1.1 (by omega) ⟨p1, p3⟩ ?_⟩⟩
    by_cases io : isOZ (plW W.2.1 c) n = true
    · rw [if_pos io]
      refine ⟨fun z => absurd z (by decide), fun _ => ?_⟩
      have ho : ∀ i, i < plW W.2.1 c → opC n i < plW W.2.1 c := by
        have key : ∀ pl : Fin 4, ∀ o : Fin 6, 1 ≤ pl.val → isOZ pl.val o.val = true → ∀ i : Fin 3, i.val < pl.val → opC o.val i.val < pl.val := by decide +kernel
        intro i hi
        exact key ⟨plW W.2.1 c, by omega⟩ ⟨n, by omega⟩ p1 io ⟨i, by omega⟩ hi
      refine pn_74 (V := V') (σ := τ) hc (by omega) ho u' (by omega) (fun υ V2 u2 q1 q2 q3 q4 q5 q6 q7 => ?_) _ 0 τ V' u' (Nat.zero_add _) hq cv hs (LsF.refl _ _) hl (by omega) (Nat.zero_le _)
      obtain ⟨S, hS⟩ := hs
      have rw' := fun a (ha : a < 64) (h6 : a ≠ 56) => LsF.row hS.1 hq.1.1 q4 ha h6
      have r57 := (rw' 57 (by omega) (by omega)).1
      have r62 := (rw' 62 (by omega) (by omega)).1
      have r63 := (rw' 63 (by omega) (by omega)).1
      have r58 : υ.l 58 = σ.l 58 ∧ υ.l 59 = σ.l 59 ∧ υ.l 60 = σ.l 60 ∧ υ.l 61 = σ.l 61 := ⟨(rw' 58 (by omega) (by omega)).2.trans e58.1, (rw' 59 (by omega) (by omega)).2.trans e58.2.1, (rw' 60 (by omega) (by omega)).2.trans e58.2.2.1, (rw' 61 (by omega) (by omega)).2.trans e58.2.2.2⟩
      have lf2 := lf.tr q4.lp
      have e63' : υ.i 63 c = Int32.ofNat (opZ W c n).2 := by rw [r63]; exact e63.1
      rw [e63', oN_le e63.2 (by omega)]
      refine ⟨fun z => ?_, fun z => ?_⟩
      · have eo : opZ W c (n + 1) = opZ W c n := by
          rw [opZ, if_neg (fun y => by omega)]
        refine ih (n + 1) υ V2 u2 (by omega) q1 q2 q3 lf2 q5 (r57.trans e57) (fun c' hc' => by rw [r62, r63]; exact e6 c' hc') r58 (by omega) (fun _ => ?_) (by rw [eo]; exact ⟨e63', e63.2⟩)
        rw [eo, r62]
        by_cases n0 : n = 0
        · subst n0
          have : (opZ W c 0).2 = 2147483647 := rfl
          omega
        · exact e62 (by omega)
      · have eo : opZ W c (n + 1) = (n, ndZ W c n (plW W.2.1 c)) := by
          rw [opZ, if_pos ⟨io, by omega⟩]
        have xw : XF (fun a => 57 ≤ a ∧ a ≤ 63) υ ((υ.wi 63 c (Int32.ofNat (ndZ W c n (plW W.2.1 c)))).wi 62 c (Int32.ofNat (3 * n))) := ((XF.refl _ _).wi (by omega)).wi (by omega)
        obtain ⟨S2, hS2⟩ := q3
        refine ih (n + 1) _ V2 u2 (by omega) (q1.xf xw (fun a q => by omega)) (q2.xf xw) ⟨S2, hS2.xf xw (fun a q => q)⟩ (lf2.tr (xw.lp V2 (fun a q => q))) q5 ?_ (fun c' hc' => ?_) r58 (by omega) (fun _ => ?_) ?_
        · rw [← e57, ← r57]
          exact funext fun j => (wi_ne (by omega)).trans (wi_ne (by omega))
        · rw [wi_ne (by omega), wi_ne (by omega), wi_ne (by omega), wi_ne (by omega), r62, r63]
          exact e6 c' hc'
        · rw [eo, wi_at]
        · rw [eo, wi_ne (by omega), wi_at]
          exact ⟨rfl, by show ndZ W c n (plW W.2.1 c) < _; omega⟩
    · rw [if_neg io]
      have eo : opZ W c (n + 1) = opZ W c n := by
        rw [opZ, if_neg (fun y => io y.1)]
      refine ⟨fun _ => ih (n + 1) τ V' u' (by omega) hq cv hs lf hl e57 e6 e58 (by omega) (fun _ => ?_) (by rw [eo]; exact e63), fun z => absurd rfl z⟩
      rw [eo]
      by_cases n0 : n = 0
      · subst n0
        exfalso
        apply io
        have key : ∀ pl : Fin 4, isOZ pl.val 0 = true := by decide +kernel
        exact key ⟨plW W.2.1 c, by omega⟩
      · exact e62 (by omega)
end PLAN

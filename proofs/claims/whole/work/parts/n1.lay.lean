/-! PURE: rows, by their elements -/
section LAYP
variable {W : Wld} {wy c pl x y z : Nat} {k : Nat → Nat}
theorem fd_sym (ms : List (Mtd × Bool)) (pl x y : Nat) : fdO ms pl x y = fdO ms pl y x := by
  unfold fdO
  congr 1
  funext i
  exact decide_eq_decide.mpr ⟨fun q e => q e.symm, fun q e => q e.symm⟩
theorem pD_gt {P Q : Prop} : (if pD P = pD Q then (0 : Int) else if pD P = true then 1 else -1) = 1 ↔ P ∧ ¬ Q := by
  have t : ∀ {R : Prop}, R → pD R = true := fun h => pD_iff.mpr h
  have f : ∀ {R : Prop}, ¬ R → pD R = false := fun h => Bool.eq_false_iff.mpr (fun z => h (pD_iff.mp z))
  by_cases p : P
  · by_cases q : Q
    · rw [t p, t q]
      exact ⟨fun z => absurd z (by decide), fun z => absurd q z.2⟩
    · rw [t p, f q]
      exact ⟨fun _ => ⟨p, q⟩, fun _ => by decide⟩
  · by_cases q : Q
    · rw [f p, t q]
      exact ⟨fun z => absurd z (by decide), fun z => absurd z.1 p⟩
    · rw [f p, f q]
      exact ⟨fun z => absurd z (by decide), fun z => absurd z.1 p⟩
/-- the one is further just if the other is nearer -/
theorem nr_as (hR : RoW W.1) (hw : wy < 3) (hx : FtM W c k x) (hy : FtM W c k y) : nrI W wy x y k = 1 ↔ nrI W wy y x k = -1 := by
  rw [nr_rk, nr_rk, hx.1, hy.1]
  unfold rkI
  rw [fd_sym W.2.2.2 (plW W.2.1 c) y x, hx.1, hy.1]
  cases hf : fdO W.2.2.2 (plW W.2.1 c) x y with
  | none =>
    dsimp only
    unfold akI
    rw [pD_gt, pD_lt]
  | some f =>
    obtain ⟨g1, g2, g3⟩ := fdO_some hf
    dsimp only
    by_cases w0 : wyW W.2.1 c = 0
    · rw [if_pos w0, if_pos w0]
      have ne : plI (rwW W.1 wy (k f)) (kdW W.2.2.2 x f) ≠ plI (rwW W.1 wy (k f)) (kdW W.2.2.2 y f) := fun e => g2 (pl_inj hR hw (hx.2 f g1).1 (hx.2 f g1).2.2 (hy.2 f g1).2.2 e)
      by_cases q : plI (rwW W.1 wy (k f)) (kdW W.2.2.2 x f) < plI (rwW W.1 wy (k f)) (kdW W.2.2.2 y f)
      · rw [if_pos q, if_neg (by omega)]
        exact ⟨fun z => absurd z (by decide), fun z => absurd z (by decide)⟩
      · rw [if_neg q, if_pos (by omega)]
        exact ⟨fun _ => rfl, fun _ => rfl⟩
    · rw [if_neg w0, if_neg w0]
      by_cases w1 : wyW W.2.1 c = 1
      · rw [if_pos w1, if_pos w1]
        have no : ¬ (((List.range (plW W.2.1 c)).all fun i => blW W.1 (kdW W.2.2.2 x i) (kdW W.2.2.2 y i)) = true ∧ ((List.range (plW W.2.1 c)).all fun i => blW W.1 (kdW W.2.2.2 y i) (kdW W.2.2.2 x i)) = true) := fun ⟨q1, q2⟩ => by
          have b1 := of_decide_eq_true (List.all_eq_true.mp q1 f (List.mem_range.mpr g1))
          have b2 := of_decide_eq_true (List.all_eq_true.mp q2 f (List.mem_range.mpr g1))
          have o1 := ((hR _ (hx.2 f g1).2.1 1 (by decide)).2 _).1 b1
          have o2 := ((hR _ (hy.2 f g1).2.1 1 (by decide)).2 _).1 b2
          exact g2 (by omega)
        cases a : ((List.range (plW W.2.1 c)).all fun i => blW W.1 (kdW W.2.2.2 x i) (kdW W.2.2.2 y i)) <;> cases b : ((List.range (plW W.2.1 c)).all fun i => blW W.1 (kdW W.2.2.2 y i) (kdW W.2.2.2 x i))
        · decide
        · decide
        · decide
        · exact absurd ⟨a, b⟩ no
      · rw [if_neg w1, if_neg w1]
        generalize smI W wy k x (plW W.2.1 c) = s
        generalize smI W wy k y (plW W.2.1 c) = t
        unfold sg3
        by_cases q1 : s - t < 0
        · rw [if_pos q1, if_neg (by omega), if_neg (by omega)]
          exact ⟨fun z => absurd z (by decide), fun z => absurd z (by decide)⟩
        · rw [if_neg q1]
          by_cases q2 : s - t = 0
          · rw [if_pos q2, if_neg (by omega), if_pos (by omega)]
            exact ⟨fun z => absurd z (by decide), fun z => absurd z (by decide)⟩
          · rw [if_neg q2, if_pos (by omega)]
            exact ⟨fun _ => rfl, fun _ => rfl⟩
end LAYP
section LAYE
variable {nr : Nat → Nat → Int} {st : Bool}
/-- those that none is nearer than -/
def frE (nr : Nat → Nat → Int) (R : List Nat) : List Nat := R.filter fun x => R.all fun y => decide (nr y x ≠ -1)
def pkE (nr : Nat → Nat → Int) (st : Bool) (R : List Nat) : Option Nat := if st = true then (match frE nr R with
    | [x] => some x
    | _ => none) else (match frE nr R with
    | x :: _ => some x
    | [] => R.head?)
def lyHE (nr : Nat → Nat → Int) (st : Bool) : Nat → List Nat → List Nat × Bool
  | 0, _ => ([], false)
  | f + 1, R => if R = [] then ([], false) else match pkE nr st R with
    | none => ([], true)
    | some x => (x :: (lyHE nr st f (R.filter (· ≠ x))).1, (lyHE nr st f (R.filter (· ≠ x))).2)
theorem fr_map (ir : ∀ x, nr x x ≠ -1) (R : List Nat) : frE nr R = (frI nr R).map fun i => R.getD i 0 := by
  have key : ∀ i, i < R.length → frB nr R i = (R.all fun y => decide (nr y (R.getD i 0) ≠ -1)) := fun i hi => by
    rw [Bool.eq_iff_iff]
    unfold frB
    rw [List.all_eq_true, List.all_eq_true]
    constructor
    · intro q y hy
      obtain ⟨j, hj⟩ := List.mem_iff_getElem?.mp hy
      have jl := (List.getElem?_eq_some_iff.mp hj).1
      have gj : R.getD j 0 = y := by
        rw [List.getD_eq_getElem?_getD, hj]
        rfl
      have := q j (List.mem_range.mpr jl)
      rw [Bool.or_eq_true, decide_eq_true_iff, decide_eq_true_iff, gj] at this
      rw [decide_eq_true_iff]
      rcases this with e | e
      · rw [e, gj]
        exact ir y
      · exact e
    · intro q j hj
      have jl := List.mem_range.mp hj
      rw [Bool.or_eq_true, decide_eq_true_iff, decide_eq_true_iff]
      refine Or.inr (of_decide_eq_true (q _ ?_))
      rw [List.getD_eq_getElem?_getD, List.getElem?_eq_getElem jl]
      exact List.getElem_mem _
  have eR : R = (List.range R.length).map fun i => R.getD i 0 := by
    refine List.ext_getElem? (fun i => ?_)
    rw [List.getElem?_map]
    by_cases hi : i < R.length
    · rw [List.getElem?_range hi, List.getElem?_eq_getElem hi]
      show _ = some (R.getD i 0)
      rw [List.getD_eq_getElem?_getD, List.getElem?_eq_getElem hi]
      rfl
    · rw [List.getElem?_eq_none (by omega), List.getElem?_eq_none (by rw [List.length_range]; omega)]
      rfl
  unfold frE frI
  conv => lhs; arg 2; rw [eR]
  rw [List.filter_map]
  congr 1
  refine List.filter_congr (fun i hi => ?_)
  exact (key i (List.mem_range.mp hi)).symm
theorem er_ne {R : List Nat} (nd : R.Nodup) {i : Nat} (hi : i < R.length) : R.eraseIdx i = R.filter (· ≠ R.getD i 0) := by
  have gi : R.getD i 0 = R[i] := by
    rw [List.getD_eq_getElem?_getD, List.getElem?_eq_getElem hi]
    rfl
  have e : R = R.take i ++ (R[i] :: R.drop (i + 1)) := by
    rw [List.getElem_cons_drop, List.take_append_drop]
  have nd' := nd
  rw [e, List.nodup_append] at nd'
  obtain ⟨n1, n2, n3⟩ := nd'
  obtain ⟨n4, n5⟩ := List.nodup_cons.mp n2
  rw [gi, List.eraseIdx_eq_take_drop_succ]
  conv => rhs; arg 2; rw [e]
  rw [List.filter_append, List.filter_cons_of_neg (by simp)]
  congr 1
  · exact (List.filter_eq_self.mpr (fun a ha => decide_eq_true (n3 a ha R[i] (List.mem_cons_self ..)))).symm
  · exact (List.filter_eq_self.mpr (fun a ha => decide_eq_true (show a ≠ R[i] from fun q => n4 (by rw [← q]; exact ha)))).symm
theorem pk_eqE (ir : ∀ x, nr x x ≠ -1) {R : List Nat} (ne : R ≠ []) : (pkO nr st R = none ↔ pkE nr st R = none) ∧ ∀ i, pkO nr st R = some i → i < R.length ∧ pkE nr st R = some (R.getD i 0) := by
  have fm := fr_map ir R
  have fl : ∀ i ∈ frI nr R, i < R.length := fun i hi => by
    unfold frI at hi
    exact List.mem_range.mp (List.mem_filter.mp hi).1
  have r1 : 0 < R.length := List.length_pos_iff.mpr ne
  unfold pkO pkE
  rw [fm]
  match e : frI nr R with
  | [] =>
    rw [if_neg (by show ¬ (0 : Int) ≤ -1; decide)]
    cases st with
    | true =>
      rw [if_pos rfl, if_pos rfl]
      exact ⟨⟨fun _ => rfl, fun _ => rfl⟩, fun i q => by cases q⟩
    | false =>
      rw [if_neg (by decide), if_neg (by decide)]
      have hd : R.head? = some (R.getD 0 0) := by
        cases R with
        | nil => exact absurd rfl ne
        | cons a r => rfl
      refine ⟨⟨fun q => (by cases q), fun q => ?_⟩, fun i q => ?_⟩
      · have q : R.head? = none := q
        rw [hd] at q
        cases q
      · have q : some (0 : Nat) = some i := q
        cases q
        exact ⟨r1, hd⟩
  | [i] =>
    have hi := fl i (by rw [e]; exact List.mem_singleton.mpr rfl)
    rw [if_pos (by show (0 : Int) ≤ (i : Int); omega)]
    have en : (foI [i]).toNat = i := Int.toNat_natCast i
    rw [en]
    cases st with
    | true =>
      rw [if_pos rfl]
      exact ⟨⟨fun q => (by cases q), fun q => by cases q⟩, fun j q => by cases q; exact ⟨hi, rfl⟩⟩
    | false =>
      rw [if_neg (by decide)]
      exact ⟨⟨fun q => (by cases q), fun q => by cases q⟩, fun j q => by cases q; exact ⟨hi, rfl⟩⟩
  | a :: b :: r =>
    have ha := fl a (by rw [e]; exact List.mem_cons_self ..)
    rw [if_neg (by show ¬ (0 : Int) ≤ -2; decide)]
    cases st with
    | true =>
      rw [if_pos rfl, if_pos rfl]
      exact ⟨⟨fun _ => rfl, fun _ => rfl⟩, fun i q => by cases q⟩
    | false =>
      rw [if_neg (by decide), if_neg (by decide)]
      have en : (leI (a :: b :: r)).toNat = a := Int.toNat_natCast a
      rw [en]
      exact ⟨⟨fun q => (by cases q), fun q => by cases q⟩, fun j q => by cases q; exact ⟨ha, rfl⟩⟩
theorem ly_eq (ir : ∀ x, nr x x ≠ -1) : ∀ (f : Nat) (R : List Nat), R.Nodup → lyG nr st f R = lyHE nr st f R
  | 0, R, _ => rfl
  | f + 1, R, nd => by
    rw [lyG, lyHE]
    by_cases e : R = []
    · rw [if_pos e, if_pos e]
    · rw [if_neg e, if_neg e]
      obtain ⟨p1, p2⟩ := pk_eqE (st := st) ir e
      cases hp : pkO nr st R with
      | none =>
        rw [p1.mp hp]
      | some i =>
        obtain ⟨q1, q2⟩ := p2 i hp
        rw [q2]
        dsimp only
        have ih := ly_eq ir f (R.eraseIdx i) (List.Pairwise.sublist (List.eraseIdx_sublist ..) nd)
        rw [ih, er_ne nd q1]
/-- how many are laid, and whether there were several -/
theorem lyHE_len : ∀ (f : Nat) (R : List Nat), R.Nodup → R.length ≤ f → ((lyHE nr st f R).2 = true → (lyHE nr st f R).1.length < R.length) ∧ ((lyHE nr st f R).2 = false → (lyHE nr st f R).1.length = R.length) ∧ ∀ x ∈ (lyHE nr st f R).1, x ∈ R
  | 0, R, _, hl => by
    have : R = [] := List.length_eq_zero_iff.mp (by omega)
    subst this
    exact ⟨fun q => (by cases q), fun _ => rfl, fun x hx => by cases hx⟩
  | f + 1, R, nd, hl => by
    rw [lyHE]
    by_cases e : R = []
    · rw [if_pos e]
      subst e
      exact ⟨fun q => (by cases q), fun _ => rfl, fun x hx => by cases hx⟩
    · rw [if_neg e]
      have r1 : 0 < R.length := List.length_pos_iff.mpr e
      cases hp : pkE nr st R with
      | none => exact ⟨fun _ => r1, fun q => (by cases q), fun x hx => by cases hx⟩
      | some x =>
        dsimp only
        have hx : x ∈ R := by
          have sub : ∀ y ∈ frE nr R, y ∈ R := fun y hy => (List.mem_filter.mp hy).1
          unfold pkE at hp
          split at hp
          · match q : frE nr R, hp with
            | [z], hp =>
              cases hp
              exact sub x (by rw [q]; exact List.mem_singleton.mpr rfl)
          · match q : frE nr R, hp with
            | z :: _, hp =>
              cases hp
              exact sub x (by rw [q]; exact List.mem_cons_self ..)
            | [], hp =>
              exact List.mem_of_head? hp
        obtain ⟨i, hi⟩ := List.mem_iff_getElem?.mp hx
        have il := (List.getElem?_eq_some_iff.mp hi).1
        have gi : R.getD i 0 = x := by
          rw [List.getD_eq_getElem?_getD, hi]
          rfl
        have le : (R.filter (· ≠ x)).length + 1 = R.length := by
          have := er_ne nd il
          rw [gi] at this
          rw [← this, List.length_eraseIdx, if_pos il]
          omega
        obtain ⟨a1, a2, a3⟩ := lyHE_len f (R.filter (· ≠ x)) (List.Pairwise.sublist List.filter_sublist nd) (by omega)
        refine ⟨fun q => ?_, fun q => ?_, fun y hy => ?_⟩
        · have := a1 q
          rw [List.length_cons]
          omega
        · have := a2 q
          rw [List.length_cons]
          omega
        · rcases List.mem_cons.mp hy with rfl | hy
          · exact hx
          · exact (List.mem_filter.mp (a3 y hy)).1
end LAYE

/-! THE REFERENCE: nodeCount() -/
/-- the pair behind the first places asked -/
def ndP (σ : Sg) (c pl o j0 : Nat) (t : Nat × Nat) : Int64 × Int64 := (if 1 < j0 then fun p => anP p (fpr σ c (opP pl o 1) t.2) else id) ((if 0 < j0 then fun p => anP p (fpr σ c (opP pl o 0) t.1) else id) (σ.l (1905 + 1 + c) 0, σ.l (1905 + 1 + c) 1))
def ndS (W : Wld) (c o j0 : Nat) (t : Nat × Nat) (m : Nat) : Bool := mnS W c m && (decide (j0 = 0) || fS W c (opP (plW W.2.1 c) o 0) t.1 m) && (decide (j0 ≤ 1) || fS W c (opP (plW W.2.1 c) o 1) t.2 m)
/-- it matters there -/
def ndM (W : Wld) (c o j0 : Nat) (t : Nat × Nat) : Bool := (List.range 128).any fun j => ndS W c o j0 t (j + 1) && (vrS W c (opP (plW W.2.1 c) o j0) (j + 1) && rsS W c o j0 (j + 1))
/-- what can still fit -/
def ndL (W : Wld) (c o j0 : Nat) (t : Nat × Nat) (m : Nat) : Bool := ndS W c o j0 t m && (anS W c (opP (plW W.2.1 c) o j0) m && rsS W c o j0 m)
def t2L (j0 : Nat) (A B : List Nat) : List (Nat × Nat) := (if 0 < j0 then A else [0]).flatMap fun x => (if 1 < j0 then B else [0]).map fun y => (x, y)
section NODES
variable {Z : zT} {d : Nat} {W : Wld} {σ τ : Sg} {K : kS} {c o j0 : Nat}
theorem pb_ndP (H : WkS W σ) (hc : c < W.2.1.length) (ho : o < ocN (plW W.2.1 c)) (hj : j0 < plW W.2.1 c) {t : Nat × Nat} (h0 : 0 < j0 → t.1 < W.1.length) (h1 : 1 < j0 → t.2 < W.1.length) {m : Nat} (m1 : 1 ≤ m) (m2 : m ≤ 128) : pb (ndP σ c (plW W.2.1 c) o j0 t) m = ndS W c o j0 t m := by
  have hpl := pl_le H.2.1 hc
  unfold ndP ndS
  by_cases q0 : 0 < j0
  · have p0 := opP_lt hpl ho (show 0 < plW W.2.1 c by omega)
    rw [if_pos q0, decide_eq_false (by omega), Bool.false_or]
    by_cases q1 : 1 < j0
    · have p1 := opP_lt hpl ho (show 1 < plW W.2.1 c by omega)
      rw [if_pos q1, decide_eq_false (by omega), Bool.false_or]
      rw [pb_an, pb_an, H.mine hc m1 m2, H.fit hc (by omega) (h0 q0) m1 m2, H.fit hc (by omega) (h1 q1) m1 m2]
    · rw [if_neg q1, decide_eq_true (by omega), Bool.true_or, Bool.and_true]
      show pb (anP _ _) m = _
      rw [pb_an, H.mine hc m1 m2, H.fit hc (by omega) (h0 q0) m1 m2]
  · rw [if_neg q0, if_neg (by omega), decide_eq_true (by omega), decide_eq_true (by omega), Bool.true_or, Bool.true_or, Bool.and_true, Bool.and_true]
    show pb (σ.l (1905 + 1 + c) 0, σ.l (1905 + 1 + c) 1) m = _
    rw [H.mine hc m1 m2]
/-- the round of one place, from its loops on -/
theorem rf_round {n0 : Nat} (H : WkS W σ) (hc : c < W.2.1.length) (ho : o < ocN (plW W.2.1 c)) (hj : j0 < plW W.2.1 c) (hM : MaS W c o j0 σ) (hG : ∀ i, i < plW W.2.1 c → GrS σ i (grW W c i)) (hS : HsS σ [])
    (h : ∀ τ, HsF σ τ → B_X23_nodeCount_16 Z (d + 2) τ (Int32.ofNat c) (Int32.ofNat o) (Int32.ofNat (plW W.2.1 c)) (Int32.ofNat (n0 + dsN (((t2L j0 (grW W c (opP (plW W.2.1 c) o 0)) (grW W c (opP (plW W.2.1 c) o 1))).filter (ndM W c o j0)).map fun t => anP (ndP σ c (plW W.2.1 c) o j0 t) (σ.l 0 66, σ.l 0 67)))) (Int32.ofNat (j0 + 1)) K) : B_X23_nodeCount_72 Z (d + 2) σ (Int32.ofNat c) (Int32.ofNat o) (Int32.ofNat (plW W.2.1 c)) (Int32.ofNat n0) (Int32.ofNat j0) (if 0 < j0 then Int32.ofNat (opP (plW W.2.1 c) o 0) else -1) (if 1 < j0 then Int32.ofNat (opP (plW W.2.1 c) o 1) else -1) 0 K := by
  have hk24 := H.2.1.1.2.1
  have hc24 := H.2.1.2.1.2.1
  have hpl := pl_le H.2.1 hc
  have ibc : ib (Int32.ofNat c) 24 := ib_oN (by omega) (by decide)
  have hgk : ∀ i x, x ∈ grW W c i → x < W.1.length := fun i x hx => mk_lt (gr_sub hx)
  have hgl : ∀ i, (grW W c i).length ≤ 24 := fun i => grW_len W c i hk24.2
  have hP0 := opP_lt hpl ho (show 0 < plW W.2.1 c by omega)
  have hP1 : 1 < j0 → opP (plW W.2.1 c) o 1 < plW W.2.1 c := fun q => opP_lt hpl ho (by omega)
  have bits : ∀ {t : Nat × Nat}, (0 < j0 → t.1 < W.1.length) → (1 < j0 → t.2 < W.1.length) → ∀ m, 1 ≤ m → m ≤ 128 → pb (ndP σ c (plW W.2.1 c) o j0 t) m = ndS W c o j0 t m := fun {t} a b m m1 m2 => pb_ndP H hc ho hj a b m1 m2
  -- whether it matters
  have mat : ∀ {t : Nat × Nat}, (0 < j0 → t.1 < W.1.length) → (1 < j0 → t.2 < W.1.length) → (((ndP σ c (plW W.2.1 c) o j0 t).1 &&& σ.l 0 64 = 0 ∧ (ndP σ c (plW W.2.1 c) o j0 t).2 &&& σ.l 0 65 = 0) ↔ ndM W c o j0 t = false) := fun {t} a b => by
    have e := pb_0 (p := anP (ndP σ c (plW W.2.1 c) o j0 t) (σ.l 0 64, σ.l 0 65))
    have e : (((ndP σ c (plW W.2.1 c) o j0 t).1 &&& σ.l 0 64 = 0 ∧ (ndP σ c (plW W.2.1 c) o j0 t).2 &&& σ.l 0 65 = 0) ↔ ∀ m, 1 ≤ m → m ≤ 128 → pb (anP (ndP σ c (plW W.2.1 c) o j0 t) (σ.l 0 64, σ.l 0 65)) m = false) := e
    rw [e]
    unfold ndM
    rw [List.any_eq_false]
    constructor
    · intro q j hj2
      have hj3 := List.mem_range.mp hj2
      have := q (j + 1) (by omega) (by omega)
      rw [pb_an, bits a b (j + 1) (by omega) (by omega), hM.1 (j + 1) (by omega) (by omega)] at this
      rw [this]
      decide
    · intro q m m1 m2
      have hm : m - 1 < 128 := by omega
      have := q (m - 1) (List.mem_range.mpr hm)
      rw [show m - 1 + 1 = m by omega] at this
      rw [pb_an, bits a b m m1 m2, hM.1 m m1 m2]
      exact Bool.eq_false_iff.mpr this
  unfold t2L at h
  generalize hX : (if 0 < j0 then grW W c (opP (plW W.2.1 c) o 0) else [0]) = X at *
  generalize hY : (if 1 < j0 then grW W c (opP (plW W.2.1 c) o 1) else [0]) = Y at *
  have hXl : X.length ≤ 24 := by
    rw [← hX]
    split
    · exact hgl _
    · decide
  have hYl : Y.length ≤ 24 := by
    rw [← hY]
    split
    · exact hgl _
    · decide
  generalize hp : plW W.2.1 c = pl at *
  generalize hf : (fun t => anP (ndP σ c pl o j0 t) (σ.l 0 66, σ.l 0 67)) = f at *
  have eAll : ((X.flatMap fun x => Y.map fun y => (x, y)).filter (ndM W c o j0)).map f = X.flatMap fun x => ((Y.map fun y => (x, y)).filter (ndM W c o j0)).map f := by
    rw [List.filter_flatMap, List.map_flatMap]
  rw [eAll] at h
  have len1 : ∀ (x : Nat) (b : Nat), (((Y.take b).map fun y => (x, y)).filter (ndM W c o j0)).length ≤ 24 := fun x b => by
    have h1 := List.length_filter_le (ndM W c o j0) ((Y.take b).map fun y => (x, y))
    rw [List.length_map, List.length_take] at h1
    omega
  have len2 : ∀ a, ((X.take a).flatMap fun x => ((Y.map fun y => (x, y)).filter (ndM W c o j0)).map f).length ≤ 24 * 24 := fun a => by
    have key : ∀ (L : List Nat) (g : Nat → List (Int64 × Int64)), (∀ x, (g x).length ≤ 24) → (L.flatMap g).length ≤ L.length * 24 := by
      intro L g hg
      induction L with
      | nil => exact Nat.le_of_eq (Nat.zero_mul 24).symm
      | cons x L ih =>
        rw [List.flatMap_cons, List.length_append, List.length_cons, Nat.succ_mul]
        have := hg x
        omega
    have := key (X.take a) (fun x => ((Y.map fun y => (x, y)).filter (ndM W c o j0)).map f) (fun x => by
      rw [List.length_map]
      have := len1 x Y.length
      rw [List.take_length] at this
      exact this)
    rw [List.length_take] at this
    have h2 : min a X.length * 24 ≤ 24 * 24 := Nat.mul_le_mul_right _ (by omega)
    omega
  have sta : ∀ {υ : Sg}, HsF σ υ → WkS W υ ∧ (∀ i, i < pl → GrS υ i (grW W c i)) ∧ (∀ k, υ.l 0 k = σ.l 0 k) ∧ (∀ i k, i < 3 → k < 24 → fpr υ c i k = fpr σ c i k) ∧ (υ.l (1905 + 1 + c) = σ.l (1905 + 1 + c)) := fun {υ} g => ⟨H.lt g.lt, fun i hi => (hG i hi).hs (by omega) g, fun k => by rw [g.2.2.2 0 (by decide) (by decide)], fun i k hi hk => g.lt.fpr (by omega) hi hk, g.2.2.2 _ (by omega) (by omega)⟩
  -- the inner loop
  have ly : ∀ (a x : Nat), X[a]? = some x → (∀ υ n, HsF σ υ → MtS υ n ((X.take (a + 1)).flatMap fun x => ((Y.map fun y => (x, y)).filter (ndM W c o j0)).map f) → B_X23_nodeCount_72 Z (d + 2) υ (Int32.ofNat c) (Int32.ofNat o) (Int32.ofNat pl) (Int32.ofNat (n0 + n)) (Int32.ofNat j0) (if 0 < j0 then Int32.ofNat (opP pl o 0) else -1) (if 1 < j0 then Int32.ofNat (opP pl o 1) else -1) (Int32.ofNat (a + 1)) K) → ∀ r b υ n, Y.length - b = r → b ≤ Y.length → HsF σ υ → MtS υ n (((X.take a).flatMap fun x => ((Y.map fun y => (x, y)).filter (ndM W c o j0)).map f) ++ (((Y.take b).map fun y => (x, y)).filter (ndM W c o j0)).map f) → B_X23_nodeCount_96 Z (d + 2) υ (Int32.ofNat c) (Int32.ofNat o) (Int32.ofNat pl) (Int32.ofNat (n0 + n)) (Int32.ofNat j0) (if 0 < j0 then Int32.ofNat (opP pl o 0) else -1) (if 1 < j0 then Int32.ofNat (opP pl o 1) else -1) (Int32.ofNat a) (Int32.ofNat b) K := by
    intro a x hx hnx r
    have ha := (List.getElem?_eq_some_iff.mp hx).1
    have hxl : 0 < j0 → x < W.1.length ∧ X = grW W c (opP pl o 0) := fun q => by
      have hX2 : X = grW W c (opP pl o 0) := by rw [← hX, if_pos q]
      exact ⟨hgk _ x (by rw [← hX2]; exact List.mem_of_getElem? hx), hX2⟩
    induction r with
    | zero =>
      intro b υ n hr hb g M
      have eb : b = Y.length := by omega
      subst eb
      obtain ⟨Hυ, Gυ, -⟩ := sta g
      rw [List.take_length, ← take_fm X (fun x => ((Y.map fun y => (x, y)).filter (ndM W c o j0)).map f) hx] at M
      have nx := hnx υ n g M
      have p114 : ∀ s1 : Int32, s1 = Int32.ofNat Y.length → B_X23_nodeCount_114 Z (d + 2) υ (Int32.ofNat c) (Int32.ofNat o) (Int32.ofNat pl) (Int32.ofNat (n0 + n)) (Int32.ofNat j0) (if 0 < j0 then Int32.ofNat (opP pl o 0) else -1) (if 1 < j0 then Int32.ofNat (opP pl o 1) else -1) (Int32.ofNat a) (Int32.ofNat Y.length) (Int32.ofNat Y.length) s1 K := by
        rintro s1 rfl
        refine S_X23_nodeCount_114 Hυ.1 ⟨fun _ => ?_, fun z => absurd (Int32.le_refl _) z⟩
        rw [oN_1]
        exact nx
      by_cases q1 : 1 < j0
      · rw [if_pos q1] at p114 ⊢
        have hp1 := hP1 q1
        refine S_X23_nodeCount_96 Hυ.1 ⟨fun _ => ⟨ib_oN (by omega) (by decide), p114 _ ?_⟩, fun z => absurd ((oN_le (a := 0) (by omega) (by omega)).mpr (Nat.zero_le _)) z⟩
        rw [oN_t (by omega), (Gυ _ hp1).1, ← hY, if_pos q1]
      · rw [if_neg q1] at p114 ⊢
        refine S_X23_nodeCount_96 Hυ.1 ⟨fun z => absurd z (by decide), fun _ => p114 _ ?_⟩
        rw [← hY, if_neg q1]
        rfl
    | succ r ih =>
      intro b υ n hr hb g M
      have hbl : b < Y.length := by omega
      have ey : Y[b]? = some Y[b] := List.getElem?_eq_getElem hbl
      obtain ⟨Hυ, Gυ, lυ, fυ, mυ⟩ := sta g
      have hyl : 1 < j0 → Y[b] < W.1.length ∧ Y = grW W c (opP pl o 1) := fun q => by
        have hY2 : Y = grW W c (opP pl o 1) := by rw [← hY, if_pos q]
        exact ⟨hgk _ _ (by rw [← hY2]; exact List.getElem_mem hbl), hY2⟩
      have eT : (((Y.take (b + 1)).map fun y => (x, y)).filter (ndM W c o j0)).map f = (((Y.take b).map fun y => (x, y)).filter (ndM W c o j0)).map f ++ (if ndM W c o j0 (x, Y[b]) = true then [f (x, Y[b])] else []) := by
        rw [List.take_add_one, ey]
        show List.map f (List.filter _ (List.map _ (Y.take b ++ [Y[b]]))) = _
        rw [List.map_append, List.filter_append, List.map_append]
        congr 1
        show List.map f (List.filter _ [(x, Y[b])]) = _
        rw [List.filter_cons]
        split <;> rfl
      have l1 := len2 a
      have l2 := len1 x b
      have mt := mat (t := (x, Y[b])) (fun q => (hxl q).1) (fun q => (hyl q).1)
      -- the pair is there
      have p255 : ∀ p q : Int64, (p, q) = ndP σ c pl o j0 (x, Y[b]) → B_X23_nodeCount_255 Z (d + 2) υ (Int32.ofNat c) (Int32.ofNat o) (Int32.ofNat pl) (Int32.ofNat (n0 + n)) (Int32.ofNat j0) (if 0 < j0 then Int32.ofNat (opP pl o 0) else -1) (if 1 < j0 then Int32.ofNat (opP pl o 1) else -1) (Int32.ofNat a) (Int32.ofNat b) p q K := by
        intro p q hpq
        have hp0 : p = (ndP σ c pl o j0 (x, Y[b])).1 := congrArg Prod.fst hpq
        have hq0 : q = (ndP σ c pl o j0 (x, Y[b])).2 := congrArg Prod.snd hpq
        have p282 : ndM W c o j0 (x, Y[b]) = true → B_X23_nodeCount_282 Z (d + 2) υ (Int32.ofNat c) (Int32.ofNat o) (Int32.ofNat pl) (Int32.ofNat (n0 + n)) (Int32.ofNat j0) (if 0 < j0 then Int32.ofNat (opP pl o 0) else -1) (if 1 < j0 then Int32.ofNat (opP pl o 1) else -1) (Int32.ofNat a) (Int32.ofNat b) p q K := by
          intro hm
          rw [if_pos hm] at eT
          refine S_X23_nodeCount_282 Hυ.1 ?_
          rw [lυ, lυ]
          refine rf_more (d := d) Hυ.1 M (by rw [List.length_append, List.length_map]; omega) (fun v ψ n' gψ Mψ hv => ?_)
          have ef : (p &&& σ.l 0 66, q &&& σ.l 0 67) = f (x, Y[b]) := by
            rw [← hf, hp0, hq0]
            rfl
          rw [ef, List.append_assoc, ← eT] at Mψ
          have := ih (b + 1) ψ n' (by omega) (by omega) (g.tr gψ) Mψ
          rcases hv with ⟨rfl, rfl⟩ | ⟨rfl, rfl⟩
          · refine ⟨fun _ => ?_, fun z => absurd rfl z⟩
            rw [oN_1]
            exact this
          · refine ⟨fun z => absurd z (by decide), fun _ => ?_⟩
            rw [oN_1 b, oN_1 (n0 + n)]
            exact this
        refine S_X23_nodeCount_255 Hυ.1 ?_
        rw [lυ, lυ, cmp_0, cmp_0, hp0, hq0]
        rw [← hp0, ← hq0]
        refine ⟨fun z => p282 ?_, fun z => ⟨fun y => p282 ?_, fun y => ?_⟩⟩
        · cases qm : ndM W c o j0 (x, Y[b]) with
          | true => rfl
          | false =>
            have := (mt.mpr qm).1
            rw [← hp0] at this
            exact absurd this z
        · cases qm : ndM W c o j0 (x, Y[b]) with
          | true => rfl
          | false =>
            have := (mt.mpr qm).2
            rw [← hq0] at this
            exact absurd this y
        · have hm : ndM W c o j0 (x, Y[b]) = false := mt.mp ⟨by rw [← hp0]; exact z, by rw [← hq0]; exact y⟩
          rw [hm] at eT
          have eT : (((Y.take (b + 1)).map fun y => (x, y)).filter (ndM W c o j0)).map f = (((Y.take b).map fun y => (x, y)).filter (ndM W c o j0)).map f := eT.trans (List.append_nil _)
          rw [oN_1]
          exact ih (b + 1) υ n (by omega) (by omega) g (by rw [eT]; exact M)
      have p196 : ∀ p q : Int64, (p, q) = (if 0 < j0 then fun p => anP p (fpr σ c (opP pl o 0) x) else id) (σ.l (1905 + 1 + c) 0, σ.l (1905 + 1 + c) 1) → B_X23_nodeCount_196 Z (d + 2) υ (Int32.ofNat c) (Int32.ofNat o) (Int32.ofNat pl) (Int32.ofNat (n0 + n)) (Int32.ofNat j0) (if 0 < j0 then Int32.ofNat (opP pl o 0) else -1) (if 1 < j0 then Int32.ofNat (opP pl o 1) else -1) (Int32.ofNat a) (Int32.ofNat b) p q K := by
        intro p q hpq
        by_cases q1 : 1 < j0
        · have hp1 := hP1 q1
          obtain ⟨y1, y2⟩ := hyl q1
          have eg := (Gυ _ hp1).2 b Y[b] (by rw [← y2]; exact ey)
          have ib1 : ib (Int32.ofNat (opP pl o 1)) 3 := ib_oN (by omega) (by decide)
          have ibb : ib (Int32.ofNat b) 24 := ib_oN (by omega) (by decide)
          have ibk : ib (υ.i (2121 + 1 + (Int32.ofNat (opP pl o 1)).toNatClampNeg) (Int32.ofNat b).toNatClampNeg) 24 := by
            rw [oN_t (by omega), oN_t (by omega), eg]
            exact ib_oN (by omega) (by decide)
          have p255' := p255
          rw [if_pos q1] at p255' ⊢
          refine S_X23_nodeCount_196 Hυ.1 ⟨fun z => absurd z (fun z => by have := (oN_lt (b := 0) (by omega) (by omega)).mp z; omega), fun _ => ⟨ibc, ib1, ib1, ibb, ibk, ibc, ib1, ib1, ibb, ibk, p255' _ _ ?_⟩⟩
          rw [oN_t (by omega), oN_t (by omega), oN_t (by omega), eg, oN_t (by omega)]
          have ef := fυ (opP pl o 1) Y[b] (by omega) (by omega)
          unfold ndP
          rw [if_pos q1, ← hpq, ← ef]
          rfl
        · have p255' := p255
          rw [if_neg q1] at p255' ⊢
          refine S_X23_nodeCount_196 Hυ.1 ⟨fun _ => p255' p q ?_, fun z => absurd (by decide) z⟩
          unfold ndP
          rw [if_neg q1]
          exact hpq
      have p114 : ∀ s1 : Int32, s1 = Int32.ofNat Y.length → B_X23_nodeCount_114 Z (d + 2) υ (Int32.ofNat c) (Int32.ofNat o) (Int32.ofNat pl) (Int32.ofNat (n0 + n)) (Int32.ofNat j0) (if 0 < j0 then Int32.ofNat (opP pl o 0) else -1) (if 1 < j0 then Int32.ofNat (opP pl o 1) else -1) (Int32.ofNat a) (Int32.ofNat b) (Int32.ofNat b) s1 K := by
        rintro s1 rfl
        refine S_X23_nodeCount_114 Hυ.1 ⟨fun z => ?_, fun _ => ⟨ibc, ibc, ?_⟩⟩
        · exfalso
          rw [oN_le (by omega) (by omega)] at z
          omega
        · by_cases q0 : 0 < j0
          · obtain ⟨x1, x2⟩ := hxl q0
            have eg := (Gυ _ hP0).2 a x (by rw [← x2]; exact hx)
            have ib0 : ib (Int32.ofNat (opP pl o 0)) 3 := ib_oN (by omega) (by decide)
            have iba : ib (Int32.ofNat a) 24 := ib_oN (by omega) (by decide)
            have ibk : ib (υ.i (2121 + 1 + (Int32.ofNat (opP pl o 0)).toNatClampNeg) (Int32.ofNat a).toNatClampNeg) 24 := by
              rw [oN_t (by omega), oN_t (by omega), eg]
              exact ib_oN (by omega) (by decide)
            simp only [if_pos q0] at p196 ⊢
            refine ⟨fun z => absurd z (fun z => by have := (oN_lt (b := 0) (by omega) (by omega)).mp z; omega), fun _ => ⟨ibc, ib0, ib0, iba, ibk, ibc, ib0, ib0, iba, ibk, p196 _ _ ?_⟩⟩
            rw [oN_t (by omega), oN_t (by omega), oN_t (by omega), eg, oN_t (by omega)]
            have ef := fυ (opP pl o 0) x (by omega) (by omega)
            rw [← ef, mυ]
            rfl
          · simp only [if_neg q0] at p196 ⊢
            refine ⟨fun _ => p196 _ _ ?_, fun z => absurd (by decide) z⟩
            rw [oN_t (by omega), mυ]
            rfl
      by_cases q1 : 1 < j0
      · have hp1 := hP1 q1
        rw [if_pos q1] at p114 ⊢
        refine S_X23_nodeCount_96 Hυ.1 ⟨fun _ => ⟨ib_oN (by omega) (by decide), p114 _ ?_⟩, fun z => absurd ((oN_le (a := 0) (by omega) (by omega)).mpr (Nat.zero_le _)) z⟩
        rw [oN_t (by omega), (Gυ _ hp1).1, ← hY, if_pos q1]
      · rw [if_neg q1] at p114 ⊢
        refine S_X23_nodeCount_96 Hυ.1 ⟨fun z => absurd z (by decide), fun _ => p114 _ ?_⟩
        rw [← hY, if_neg q1]
        rfl
  -- the outer loop
  have lx : ∀ r a υ n, X.length - a = r → a ≤ X.length → HsF σ υ → MtS υ n ((X.take a).flatMap fun x => ((Y.map fun y => (x, y)).filter (ndM W c o j0)).map f) → B_X23_nodeCount_72 Z (d + 2) υ (Int32.ofNat c) (Int32.ofNat o) (Int32.ofNat pl) (Int32.ofNat (n0 + n)) (Int32.ofNat j0) (if 0 < j0 then Int32.ofNat (opP pl o 0) else -1) (if 1 < j0 then Int32.ofNat (opP pl o 1) else -1) (Int32.ofNat a) K := by
    intro r
    induction r with
    | zero =>
      intro a υ n hr ha g M
      have ea : a = X.length := by omega
      subst ea
      obtain ⟨Hυ, Gυ, -⟩ := sta g
      rw [List.take_length] at M
      have hh := h υ g
      rw [← M.n] at hh
      by_cases q0 : 0 < j0
      · rw [if_pos q0]
        refine S_X23_nodeCount_72 Hυ.1 ⟨fun _ => ⟨ib_oN (by omega) (by decide), fun _ => ?_, fun z => absurd ?_ z⟩, fun z => absurd ((oN_le (a := 0) (by omega) (by omega)).mpr (Nat.zero_le _)) z⟩
        · rw [oN_1]
          exact hh
        · rw [oN_t (by omega), (Gυ _ hP0).1, ← hX, if_pos q0]
          exact Int32.le_refl _
      · rw [if_neg q0]
        refine S_X23_nodeCount_72 Hυ.1 ⟨fun z => absurd z (by decide), fun _ => ⟨fun _ => ?_, fun z => absurd ?_ z⟩⟩
        · rw [oN_1]
          exact hh
        · rw [← hX, if_neg q0]
          decide
    | succ r ih =>
      intro a υ n hr ha g M
      have hal : a < X.length := by omega
      have ex : X[a]? = some X[a] := List.getElem?_eq_getElem hal
      obtain ⟨Hυ, Gυ, -⟩ := sta g
      have nx := ly a X[a] ex (fun ψ n' gψ Mψ => ih (a + 1) ψ n' (by omega) (by omega) gψ Mψ) Y.length 0 υ n (by omega) (Nat.zero_le _) g (by
        rw [List.take_zero, List.map_nil, List.filter_nil, List.map_nil, List.append_nil]
        exact M)
      by_cases q0 : 0 < j0
      · rw [if_pos q0] at nx ⊢
        refine S_X23_nodeCount_72 Hυ.1 ⟨fun _ => ⟨ib_oN (by omega) (by decide), fun z => ?_, fun _ => nx⟩, fun z => absurd ((oN_le (a := 0) (by omega) (by omega)).mpr (Nat.zero_le _)) z⟩
        exfalso
        have hX2 : X = grW W c (opP pl o 0) := by rw [← hX, if_pos q0]
        rw [oN_t (by omega), (Gυ _ hP0).1, ← hX2, oN_le (by omega) (by omega)] at z
        omega
      · rw [if_neg q0] at nx ⊢
        refine S_X23_nodeCount_72 Hυ.1 ⟨fun z => absurd z (by decide), fun _ => ⟨fun z => ?_, fun _ => nx⟩⟩
        exfalso
        have hX2 : X.length = 1 := by rw [← hX, if_neg q0]; rfl
        rw [show (1 : Int32) = Int32.ofNat 1 from rfl, oN_le (by omega) (by omega)] at z
        omega
  have := lx X.length 0 σ 0 (by omega) (Nat.zero_le _) (HsF.refl σ) ⟨[], hS, List.nodup_nil, rfl, fun p => Iff.rfl⟩
  exact this
end NODES

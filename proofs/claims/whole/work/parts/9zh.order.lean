/-! PURE: nodes of a tree, orders, looks -/
/-- how many nodes ask at the j0-th place of an order -/
noncomputable def nodA (W : Wld) (c o j0 : Nat) : Nat := dsN (((t2L j0 (mkW W.1) (mkW W.1)).filter (ndM W c o j0)).map fun t => seL (ndL W c o j0 t))
noncomputable def ndN (W : Wld) (c o : Nat) : Nat → Nat
  | 0 => 0
  | j + 1 => ndN W c o j + nodA W c o j
theorem t2L_mem {j0 : Nat} {A B : List Nat} {t : Nat × Nat} : t ∈ t2L j0 A B ↔ t.1 ∈ (if 0 < j0 then A else [0]) ∧ t.2 ∈ (if 1 < j0 then B else [0]) := by
  unfold t2L
  rw [List.mem_flatMap]
  constructor
  · rintro ⟨x, hx, h⟩
    obtain ⟨y, hy, h⟩ := List.mem_map.mp h
    rw [← h]
    exact ⟨hx, hy⟩
  · rintro ⟨h1, h2⟩
    exact ⟨t.1, h1, List.mem_map.mpr ⟨t.2, h2, rfl⟩⟩
theorem t2L_len (j0 : Nat) (A B : List Nat) (ha : A.length ≤ 24) (hb : B.length ≤ 24) : (t2L j0 A B).length ≤ 576 := by
  have key : ∀ (L : List Nat) (g : Nat → List (Nat × Nat)), (∀ x, (g x).length ≤ 24) → (L.flatMap g).length ≤ L.length * 24 := by
    intro L g hg
    induction L with
    | nil => exact Nat.le_of_eq (Nat.zero_mul 24).symm
    | cons x L ih =>
      rw [List.flatMap_cons, List.length_append, List.length_cons, Nat.succ_mul]
      have := hg x
      omega
  have hB : (if 1 < j0 then B else [0]).length ≤ 24 := by
    split
    · exact hb
    · decide
  have hA : (if 0 < j0 then A else [0]).length ≤ 24 := by
    split
    · exact ha
    · decide
  have := key (if 0 < j0 then A else [0]) (fun x => (if 1 < j0 then B else [0]).map fun y => (x, y)) (fun x => by rw [List.length_map]; exact hB)
  unfold t2L
  omega
theorem vr_an {W : Wld} {c i m : Nat} (hmk : 1 ≤ (mkW W.1).length) (h : vrS W c i m = true) : anS W c i m = true := by
  obtain ⟨k, k1, k2⟩ := List.any_eq_true.mp h
  have e0 : (mkW W.1).getD 0 0 ∈ mkW W.1 := by
    rw [List.getD_eq_getElem?_getD, List.getElem?_eq_getElem (by omega)]
    exact List.getElem_mem _
  cases q : fS W c i k m with
  | true => exact List.any_eq_true.mpr ⟨k, k1, q⟩
  | false =>
    rw [q] at k2
    refine List.any_eq_true.mpr ⟨_, e0, ?_⟩
    cases q2 : fS W c i ((mkW W.1).getD 0 0) m with
    | true => rfl
    | false =>
      rw [q2] at k2
      cases k2
theorem ndM_L {W : Wld} {c o j0 : Nat} (hmk : 1 ≤ (mkW W.1).length) (t : Nat × Nat) : ndM W c o j0 t = (List.range 128).any fun j => ndL W c o j0 t (j + 1) && vrS W c (opP (plW W.2.1 c) o j0) (j + 1) := by
  unfold ndM
  congr 1
  funext j
  unfold ndL
  cases q : vrS W c (opP (plW W.2.1 c) o j0) (j + 1) with
  | false => simp
  | true => simp [vr_an hmk q]
theorem ndM_eq {W : Wld} {c o j0 : Nat} (hmk : 1 ≤ (mkW W.1).length) {t t' : Nat × Nat} (h : seL (ndL W c o j0 t) = seL (ndL W c o j0 t')) : ndM W c o j0 t = ndM W c o j0 t' := by
  rw [seL_eq] at h
  rw [ndM_L hmk, ndM_L hmk, Bool.eq_iff_iff, List.any_eq_true, List.any_eq_true]
  constructor
  · rintro ⟨j, j1, j2⟩
    have := List.mem_range.mp j1
    rw [h (j + 1) (by omega) (by omega)] at j2
    exact ⟨j, j1, j2⟩
  · rintro ⟨j, j1, j2⟩
    have := List.mem_range.mp j1
    rw [← h (j + 1) (by omega) (by omega)] at j2
    exact ⟨j, j1, j2⟩
theorem opP_ex {pl o i : Nat} (hp : 1 ≤ pl ∧ pl ≤ 3) (ho : o < ocN pl) (hi : i < pl) : ∃ j, j < pl ∧ opP pl o j = i := by
  have ho6 : o < 6 := by
    unfold ocN at ho
    split at ho
    · omega
    · split at ho <;> omega
  obtain ⟨j, j1, j2⟩ := (opP_all ⟨pl, by omega⟩ ⟨o, ho6⟩ hp.1 ho).2.1 ⟨i, by omega⟩ hi
  exact ⟨j.val, j1, j2⟩
/-- the kinds that stand for others leave the same set -/
theorem nd_rep {W : Wld} {c o j0 : Nat} (hp : 1 ≤ plW W.2.1 c ∧ plW W.2.1 c ≤ 3) (ho : o < ocN (plW W.2.1 c)) (hj : j0 < plW W.2.1 c) {x y x' y' : Nat} (hx' : 0 < j0 → x' ∈ mkW W.1) (hy : 1 < j0 → y ∈ mkW W.1) (ax : 0 < j0 → alB W c (opP (plW W.2.1 c) o 0) x x' = true) (ay : 1 < j0 → alB W c (opP (plW W.2.1 c) o 1) y y' = true) : seL (ndL W c o j0 (x, y)) = seL (ndL W c o j0 (x', y')) := by
  rw [seL_eq]
  intro m h1 h2
  have ot : ∀ i, (∀ j, j < plW W.2.1 c → opP (plW W.2.1 c) o j ≠ i → anS W c (opP (plW W.2.1 c) o j) m = true) → otS W c i m = true := fun i hh => by
    unfold otS
    rw [List.all_eq_true]
    intro j hj2
    by_cases q : j = i
    · rw [decide_eq_true q, Bool.true_or]
    · obtain ⟨j', a1, a2⟩ := opP_ex hp ho (List.mem_range.mp hj2)
      rw [← a2] at q ⊢
      rw [hh j' a1 q, Bool.or_true]
  have rs : rsS W c o j0 m = true → ∀ j, j < plW W.2.1 c → j0 < j → anS W c (opP (plW W.2.1 c) o j) m = true := fun q j a1 a2 => by
    unfold rsS at q
    rw [List.all_eq_true] at q
    have := q j (List.mem_range.mpr a1)
    rw [decide_eq_false (by omega), Bool.false_or] at this
    exact this
  have s1 : ndL W c o j0 (x, y) m = ndL W c o j0 (x', y) m := by
    by_cases h0 : 0 < j0
    · unfold ndL ndS
      dsimp only
      rw [decide_eq_false (show ¬ j0 = 0 by omega), Bool.false_or, Bool.false_or]
      by_cases qy : (decide (j0 ≤ 1) || fS W c (opP (plW W.2.1 c) o 1) y m) = true
      · by_cases qz : (anS W c (opP (plW W.2.1 c) o j0) m && rsS W c o j0 m) = true
        · rw [al_fs (ax h0) h1 h2 (ot _ fun j a1 a2 => ?_)]
          rw [Bool.and_eq_true] at qz
          rcases (by omega : j = 0 ∨ (0 < j ∧ j < j0) ∨ j = j0 ∨ j0 < j) with e | e | e | e
          · rw [e] at a2
            exact absurd rfl a2
          · have e1 : j = 1 := by omega
            rw [e1]
            rw [decide_eq_false (by omega), Bool.false_or] at qy
            exact fs_an (hy (by omega)) qy
          · rw [e]
            exact qz.1
          · exact rs qz.2 j a1 e
        · simp [Bool.eq_false_iff.mpr qz]
      · simp [Bool.eq_false_iff.mpr qy]
    · unfold ndL ndS
      dsimp only
      rw [decide_eq_true (show j0 = 0 by omega), Bool.true_or, Bool.true_or]
  have s2 : ndL W c o j0 (x', y) m = ndL W c o j0 (x', y') m := by
    by_cases h0 : 1 < j0
    · unfold ndL ndS
      dsimp only
      rw [decide_eq_false (show ¬ j0 ≤ 1 by omega), Bool.false_or, Bool.false_or]
      by_cases qx : (decide (j0 = 0) || fS W c (opP (plW W.2.1 c) o 0) x' m) = true
      · by_cases qz : (anS W c (opP (plW W.2.1 c) o j0) m && rsS W c o j0 m) = true
        · rw [al_fs (ay h0) h1 h2 (ot _ fun j a1 a2 => ?_)]
          rw [Bool.and_eq_true] at qz
          rcases (by omega : j = 0 ∨ j = 1 ∨ j = j0 ∨ j0 < j) with e | e | e | e
          · rw [e]
            rw [decide_eq_false (by omega), Bool.false_or] at qx
            exact fs_an (hx' (by omega)) qx
          · rw [e] at a2
            exact absurd rfl a2
          · rw [e]
            exact qz.1
          · exact rs qz.2 j a1 e
        · simp [Bool.eq_false_iff.mpr qz]
      · simp [Bool.eq_false_iff.mpr qx]
    · unfold ndL ndS
      dsimp only
      rw [decide_eq_true (show j0 ≤ 1 by omega), Bool.true_or, Bool.true_or]
  rw [s1, s2]
section NODES2
variable {Z : zT} {d : Nat} {W : Wld} {σ τ : Sg} {K : kS} {c o j0 : Nat}
theorem nd_rep_n (H : WkS W σ) (hc : c < W.2.1.length) (hmk : 1 ≤ (mkW W.1).length) (ho : o < ocN (plW W.2.1 c)) (hj : j0 < plW W.2.1 c) (hM : MaS W c o j0 σ) : dsN (((t2L j0 (grW W c (opP (plW W.2.1 c) o 0)) (grW W c (opP (plW W.2.1 c) o 1))).filter (ndM W c o j0)).map fun t => anP (ndP σ c (plW W.2.1 c) o j0 t) (σ.l 0 66, σ.l 0 67)) = nodA W c o j0 := by
  have hpl := pl_le H.2.1 hc
  have hb : ∀ t ∈ (t2L j0 (grW W c (opP (plW W.2.1 c) o 0)) (grW W c (opP (plW W.2.1 c) o 1))).filter (ndM W c o j0), (0 < j0 → t.1 < W.1.length) ∧ (1 < j0 → t.2 < W.1.length) := fun t ht => by
    obtain ⟨a1, a2⟩ := t2L_mem.mp (List.mem_filter.mp ht).1
    refine ⟨fun q => ?_, fun q => ?_⟩
    · rw [if_pos q] at a1
      exact mk_lt (gr_sub a1)
    · rw [if_pos q] at a2
      exact mk_lt (gr_sub a2)
  have e1 : dsN (((t2L j0 (grW W c (opP (plW W.2.1 c) o 0)) (grW W c (opP (plW W.2.1 c) o 1))).filter (ndM W c o j0)).map fun t => anP (ndP σ c (plW W.2.1 c) o j0 t) (σ.l 0 66, σ.l 0 67)) = dsN (((t2L j0 (grW W c (opP (plW W.2.1 c) o 0)) (grW W c (opP (plW W.2.1 c) o 1))).filter (ndM W c o j0)).map fun t => seL (ndL W c o j0 t)) := by
    refine dsN_map fun t ht t' ht' => ?_
    obtain ⟨b1, b2⟩ := hb t ht
    obtain ⟨c1, c2⟩ := hb t' ht'
    rw [pb_ext, seL_eq]
    refine forall_congr' fun m => forall_congr' fun m1 => forall_congr' fun m2 => ?_
    rw [pb_an, pb_an, pb_ndP H hc ho hj b1 b2 m1 m2, pb_ndP H hc ho hj c1 c2 m1 m2, hM.2 m m1 m2]
    rfl
  rw [e1]
  unfold nodA
  refine dsN_mem fun s => ?_
  rw [List.mem_map, List.mem_map]
  constructor
  · rintro ⟨t, ht, e⟩
    obtain ⟨f1, f2⟩ := List.mem_filter.mp ht
    obtain ⟨a1, a2⟩ := t2L_mem.mp f1
    refine ⟨t, List.mem_filter.mpr ⟨t2L_mem.mpr ⟨?_, ?_⟩, f2⟩, e⟩
    · split at a1
      · rename_i q
        rw [if_pos q]
        exact gr_sub a1
      · rename_i q
        rw [if_neg q]
        exact a1
    · split at a2
      · rename_i q
        rw [if_pos q]
        exact gr_sub a2
      · rename_i q
        rw [if_neg q]
        exact a2
  · rintro ⟨t, ht, e⟩
    obtain ⟨f1, f2⟩ := List.mem_filter.mp ht
    obtain ⟨a1, a2⟩ := t2L_mem.mp f1
    obtain ⟨x', hx', ax⟩ : ∃ x', x' ∈ (if 0 < j0 then grW W c (opP (plW W.2.1 c) o 0) else [0]) ∧ (0 < j0 → alB W c (opP (plW W.2.1 c) o 0) t.1 x' = true) := by
      split at a1
      · rename_i q
        obtain ⟨y, y1, y2⟩ := gr_has (c := c) (i := opP (plW W.2.1 c) o 0) a1
        exact ⟨y, by rw [if_pos q]; exact y1, fun _ => y2⟩
      · rename_i q
        exact ⟨0, by rw [if_neg q]; exact List.mem_singleton.mpr rfl, fun z => absurd z q⟩
    obtain ⟨y', hy', ay⟩ : ∃ y', y' ∈ (if 1 < j0 then grW W c (opP (plW W.2.1 c) o 1) else [0]) ∧ (1 < j0 → alB W c (opP (plW W.2.1 c) o 1) t.2 y' = true) := by
      split at a2
      · rename_i q
        obtain ⟨y, y1, y2⟩ := gr_has (c := c) (i := opP (plW W.2.1 c) o 1) a2
        exact ⟨y, by rw [if_pos q]; exact y1, fun _ => y2⟩
      · rename_i q
        exact ⟨0, by rw [if_neg q]; exact List.mem_singleton.mpr rfl, fun z => absurd z q⟩
    have er := nd_rep (x := t.1) (y := t.2) (x' := x') (y' := y') hpl ho hj (fun q => by rw [if_pos q] at hx'; exact gr_sub hx') (fun q => by rw [if_pos q] at a2; exact a2) ax ay
    refine ⟨(x', y'), List.mem_filter.mpr ⟨t2L_mem.mpr ⟨hx', hy'⟩, ?_⟩, ?_⟩
    · rw [← ndM_eq hmk er]
      exact f2
    · rw [← e]
      exact er.symm
theorem mk_len (W : Wld) : (mkW W.1).length ≤ W.1.length := by
  unfold mkW
  have := List.length_filter_le (fun k => !(((W.1[k]?).map (·.2.1)).getD false)) (List.range W.1.length)
  rw [List.length_range] at this
  exact this
theorem nodA_le (W : Wld) (h24 : W.1.length ≤ 24) (c o j0 : Nat) : nodA W c o j0 ≤ 576 := by
  unfold nodA
  refine Nat.le_trans (dsN_le _) ?_
  rw [List.length_map]
  have h1 := List.length_filter_le (ndM W c o j0) (t2L j0 (mkW W.1) (mkW W.1))
  have h2 := mk_len W
  have h3 := t2L_len j0 (mkW W.1) (mkW W.1) (by omega) (by omega)
  omega
theorem ndN_le (W : Wld) (h24 : W.1.length ≤ 24) (c o : Nat) : ∀ j, ndN W c o j ≤ 576 * j
  | 0 => Nat.le_refl _
  | j + 1 => by
    have h1 := ndN_le W h24 c o j
    have h2 := nodA_le W h24 c o j
    rw [ndN]
    omega
/-- nodeCount() -/
theorem rf_nodeCount (H : WkS W σ) (hc : c < W.2.1.length) (hmk : 1 ≤ (mkW W.1).length) (ho : o < ocN (plW W.2.1 c)) (hG : ∀ i, i < plW W.2.1 c → GrS σ i (grW W c i)) (h : ∀ τ, LtF σ τ → τ.i 1931 = σ.i 1931 → (∀ i, i < plW W.2.1 c → GrS τ i (grW W c i)) → K (.inl (some (.int (Int32.ofNat (ndN W c o (plW W.2.1 c)))))) τ) : B_X23_nodeCount_0 Z (d + 4) σ (Int32.ofNat c) (Int32.ofNat o) K := by
  have hc24 := H.2.1.2.1.2.1
  have hk24 := H.2.1.1.2.1
  have hpl := pl_le H.2.1 hc
  obtain ⟨-, -, w3⟩ := wyW_ok H.2.1 hc
  have ibc : ib (Int32.ofNat c) 24 := ib_oN (by omega) (by decide)
  have loop : ∀ r j τ, plW W.2.1 c - j = r → j ≤ plW W.2.1 c → LtF σ τ → τ.i 1931 = σ.i 1931 → (∀ i, i < plW W.2.1 c → GrS τ i (grW W c i)) → B_X23_nodeCount_16 Z (d + 4) τ (Int32.ofNat c) (Int32.ofNat o) (Int32.ofNat (plW W.2.1 c)) (Int32.ofNat (ndN W c o j)) (Int32.ofNat j) K := by
    intro r
    induction r with
    | zero =>
      intro j τ hr hj g o1 G
      have e : j = plW W.2.1 c := by omega
      subst e
      exact S_X23_nodeCount_16 (g.fx H.1) ⟨fun _ => h τ g o1 G, fun z => absurd (Int32.le_refl _) z⟩
    | succ r ih =>
      intro j τ hr hj g o1 G
      have hjl : j < plW W.2.1 c := by omega
      have Hτ := H.lt g
      refine S_X23_nodeCount_16 Hτ.1 ⟨fun z => ?_, fun _ => ?_⟩
      · exfalso
        rw [oN_le (by omega) (by omega)] at z
        omega
      · refine rf_matter (d := d + 1) Hτ hc hmk ho hjl (fun τ1 g1 M1 => ?_)
        have gL1 := g.tr g1.lt
        have H1 := H.lt gL1
        refine rf_nothingIs (d := d + 2) H1.1 (fun τ3 g3 S3 => ?_)
        have gL3 := gL1.tr g3.lt
        have H3 := H.lt gL3
        have l0 : ∀ k, τ3.l 0 k = τ1.l 0 k := fun k => by rw [g3.2.2.2 0 (by decide) (by decide)]
        have M3 : MaS W c o j τ3 := ⟨fun m m1 m2 => by rw [l0, l0]; exact M1.1 m m1 m2, fun m m1 m2 => by rw [l0, l0]; exact M1.2 m m1 m2⟩
        have G3 : ∀ i, i < plW W.2.1 c → GrS τ3 i (grW W c i) := fun i hi => by
          refine GrS.hs ?_ (by omega) g3
          obtain ⟨b1, b2⟩ := G i hi
          exact ⟨by rw [g1.2.2.1]; exact b1, fun x y hy => by rw [g1.2.2.1]; exact b2 x y hy⟩
        have hn := nd_rep_n H3 hc hmk ho hjl M3
        have rnd : B_X23_nodeCount_72 Z (d + 4) τ3 (Int32.ofNat c) (Int32.ofNat o) (Int32.ofNat (plW W.2.1 c)) (Int32.ofNat (ndN W c o j)) (Int32.ofNat j) (if 0 < j then Int32.ofNat (opP (plW W.2.1 c) o 0) else -1) (if 1 < j then Int32.ofNat (opP (plW W.2.1 c) o 1) else -1) 0 K := by
          refine rf_round (d := d + 2) H3 hc ho hjl M3 G3 S3 (fun τ4 g4 => ?_)
          rw [hn]
          refine ih (j + 1) τ4 (by omega) (by omega) (gL3.tr g4.lt) ?_ (fun i hi => (G3 i hi).hs (by omega) g4)
          rw [g4.2.2.1 1931 (by decide), g3.2.2.1 1931 (by decide), g1.2.2.1]
          exact o1
        have p49 : B_X23_nodeCount_49 Z (d + 4) τ3 (Int32.ofNat c) (Int32.ofNat o) (Int32.ofNat (plW W.2.1 c)) (Int32.ofNat (ndN W c o j)) (Int32.ofNat j) (if 0 < j then Int32.ofNat (opP (plW W.2.1 c) o 0) else -1) K := by
          refine S_X23_nodeCount_49 H3.1 ⟨fun z => ?_, fun z => ?_⟩
          · rw [show (1 : Int32) = Int32.ofNat 1 from rfl, oN_le (by omega) (by omega)] at z
            rw [if_neg (show ¬ 1 < j by omega)] at rnd
            exact rnd
          · rw [show (1 : Int32) = Int32.ofNat 1 from rfl, oN_le (by omega) (by omega)] at z
            rw [if_pos (show 1 < j by omega)] at rnd
            exact rf_placeO (d := d + 2) (j := 1) H3.1 hpl ho (by omega) rnd
        refine ⟨fun z => ?_, fun z => ?_⟩
        · rw [show (0 : Int32) = Int32.ofNat 0 from rfl, oN_le (by omega) (by omega)] at z
          rw [if_neg (show ¬ 0 < j by omega)] at p49
          exact p49
        · rw [show (0 : Int32) = Int32.ofNat 0 from rfl, oN_le (by omega) (by omega)] at z
          rw [if_pos (show 0 < j by omega)] at p49
          exact rf_placeO (d := d + 2) (j := 0) H3.1 hpl ho (by omega) p49
  refine S_X23_nodeCount_0 H.1 ⟨ibc, ?_⟩
  rw [oN_t (by omega), w3]
  exact loop _ 0 σ rfl (Nat.zero_le _) (LtF.refl σ) rfl hG
/-! order() -/
/-- the best of the first so many orders, and its nodes -/
noncomputable def orW (W : Wld) (c : Nat) : Nat → Nat × Nat
  | 0 => (0, 0)
  | o + 1 => if o = 0 ∨ ndN W c o (plW W.2.1 c) < (orW W c o).2 then (o, ndN W c o (plW W.2.1 c)) else orW W c o
noncomputable def orN (W : Wld) (c : Nat) : Nat := (orW W c (ocN (plW W.2.1 c))).1
theorem orW_lt (W : Wld) (c : Nat) : ∀ n, 1 ≤ n → (orW W c n).1 < n
  | 0, h => by omega
  | n + 1, _ => by
    rw [orW]
    split
    · show n < n + 1
      omega
    · rename_i q
      have := orW_lt W c n (by omega)
      omega
theorem orW_b (W : Wld) (h24 : W.1.length ≤ 24) (c : Nat) (h3 : plW W.2.1 c ≤ 3) : ∀ n, (orW W c n).2 ≤ 1728
  | 0 => by
    show 0 ≤ 1728
    omega
  | n + 1 => by
    rw [orW]
    split
    · have := ndN_le W h24 c n (plW W.2.1 c)
      show ndN W c n (plW W.2.1 c) ≤ 1728
      omega
    · exact orW_b W h24 c h3 n
/-- the orders kept are right -/
def OrR (W : Wld) (σ : Sg) : Prop := ∀ c, c < W.2.1.length → σ.i 1931 c = -1 ∨ σ.i 1931 c = Int32.ofNat (orN W c)
theorem oc_b {pl : Nat} : 1 ≤ ocN pl ∧ ocN pl ≤ 6 := by
  unfold ocN
  split
  · omega
  · split <;> omega
theorem rf_order (H : WkS W σ) (hc : c < W.2.1.length) (hmk : 1 ≤ (mkW W.1).length) (hO : OrR W σ) (h : ∀ τ, LtF σ τ → OrR W τ → K (.inl (some (.int (Int32.ofNat (orN W c))))) τ) : B_X23_order_0 Z (d + 5) σ (Int32.ofNat c) K := by
  have hc24 := H.2.1.2.1.2.1
  have hk24 := H.2.1.1.2.1
  have hpl := pl_le H.2.1 hc
  have ibc : ib (Int32.ofNat c) 24 := ib_oN (by omega) (by decide)
  have ob := oc_b (pl := plW W.2.1 c)
  have hol := orW_lt W c (ocN (plW W.2.1 c)) ob.1
  have hol : orN W c < ocN (plW W.2.1 c) := hol
  refine S_X23_order_0 H.1 ⟨ibc, fun z => ?_, fun z => ⟨ibc, ?_⟩⟩
  · refine rf_group (d := d + 2) H hc (fun τ g _ _ o1 G => ?_)
    have loop : ∀ r n τ, ocN (plW W.2.1 c) - n = r → n ≤ ocN (plW W.2.1 c) → LtF σ τ → τ.i 1931 = σ.i 1931 → (∀ i, i < plW W.2.1 c → GrS τ i (grW W c i)) → B_X23_order_28 Z (d + 5) τ (Int32.ofNat c) (Int32.ofNat (orW W c n).1) (Int32.ofNat (orW W c n).2) (Int32.ofNat n) K := by
      intro r
      induction r with
      | zero =>
        intro n τ hr hn g o1 G
        have e : n = ocN (plW W.2.1 c) := by omega
        subst e
        have Hτ := H.lt g
        obtain ⟨-, -, w3⟩ := wyW_ok Hτ.2.1 hc
        refine S_X23_order_28 Hτ.1 ⟨ibc, ?_⟩
        rw [oN_t (by omega), w3]
        have fin : B_X23_orderCount_0 Z (d + 4) τ (Int32.ofNat (plW W.2.1 c)) (yI K fun v4 τ2 => (v4 ≤ Int32.ofNat (ocN (plW W.2.1 c)) → ib (Int32.ofNat c) 24 ∧ (K (.inl (some (.int (Int32.ofNat (orW W c (ocN (plW W.2.1 c))).1)))) (τ2.wi 1931 c (Int32.ofNat (orW W c (ocN (plW W.2.1 c))).1)))) ∧ (¬ v4 ≤ Int32.ofNat (ocN (plW W.2.1 c)) → B_X23_nodeCount_0 Z (d + 4) τ2 (Int32.ofNat c) (Int32.ofNat (ocN (plW W.2.1 c))) (yI K fun v8 τ6 => (Int32.ofNat (ocN (plW W.2.1 c)) ≤ 0 → B_X23_order_28 Z (d + 5) τ6 (Int32.ofNat c) (Int32.ofNat (ocN (plW W.2.1 c))) v8 (Int32.ofNat (ocN (plW W.2.1 c)) + 1) K) ∧ (¬ Int32.ofNat (ocN (plW W.2.1 c)) ≤ 0 → (v8 < Int32.ofNat (orW W c (ocN (plW W.2.1 c))).2 → B_X23_order_28 Z (d + 5) τ6 (Int32.ofNat c) (Int32.ofNat (ocN (plW W.2.1 c))) v8 (Int32.ofNat (ocN (plW W.2.1 c)) + 1) K) ∧ (¬ v8 < Int32.ofNat (orW W c (ocN (plW W.2.1 c))).2 → B_X23_order_28 Z (d + 5) τ6 (Int32.ofNat c) (Int32.ofNat (orW W c (ocN (plW W.2.1 c))).1) (Int32.ofNat (orW W c (ocN (plW W.2.1 c))).2) (Int32.ofNat (ocN (plW W.2.1 c)) + 1) K))))) := by
          have done : ∀ v : Int32, v = Int32.ofNat (ocN (plW W.2.1 c)) → (v ≤ Int32.ofNat (ocN (plW W.2.1 c)) → ib (Int32.ofNat c) 24 ∧ (K (.inl (some (.int (Int32.ofNat (orW W c (ocN (plW W.2.1 c))).1)))) (τ.wi 1931 c (Int32.ofNat (orW W c (ocN (plW W.2.1 c))).1)))) := by
            intro v hv _
            refine ⟨ibc, h _ (g.tr ⟨rfl, rfl, fun a _ _ a3 => wi_row a3, fun _ _ _ _ _ => rfl⟩) (fun c' hc' => ?_)⟩
            by_cases e : c' = c
            · subst e
              rw [wi_at]
              exact Or.inr rfl
            · rw [wi_ne (by omega), o1]
              exact hO c' hc'
          refine S_X23_orderCount_0 Hτ.1 ⟨fun z1 => ⟨fun z2 => ⟨done 6 ?_, fun q => absurd ?_ q⟩, fun z2 => ⟨done 2 ?_, fun q => absurd ?_ q⟩⟩, fun z1 => ⟨done 1 ?_, fun q => absurd ?_ q⟩⟩
          all_goals
            first
              | (have n1 : plW W.2.1 c ≠ 1 := fun q => z1 (by rw [q]; rfl)
                 have n2 : plW W.2.1 c ≠ 2 := fun q => z2 (by rw [q]; rfl)
                 have e6 : ocN (plW W.2.1 c) = 6 := by unfold ocN; rw [if_neg n1, if_neg n2]
                 rw [e6]
                 first | rfl | decide)
              | (have n1 : plW W.2.1 c ≠ 1 := fun q => z1 (by rw [q]; rfl)
                 rw [show (2 : Int32) = Int32.ofNat 2 from rfl, oN_eq (by omega) (by omega)] at z2
                 have e2 : ocN (plW W.2.1 c) = 2 := by unfold ocN; rw [if_neg n1, if_pos z2]
                 rw [e2]
                 first | rfl | decide)
              | (rw [show (1 : Int32) = Int32.ofNat 1 from rfl, oN_eq (by omega) (by omega)] at z1
                 have e1 : ocN (plW W.2.1 c) = 1 := by unfold ocN; rw [if_pos z1]
                 rw [e1]
                 first | rfl | decide)
        exact fin
      | succ r ih =>
        intro n τ hr hn g o1 G
        have hnl : n < ocN (plW W.2.1 c) := by omega
        have Hτ := H.lt g
        obtain ⟨-, -, w3⟩ := wyW_ok Hτ.2.1 hc
        have hob := orW_b W hk24.2 c hpl.2 n
        have hnb := ndN_le W hk24.2 c n (plW W.2.1 c)
        refine S_X23_order_28 Hτ.1 ⟨ibc, ?_⟩
        rw [oN_t (by omega), w3]
        have go : ∀ v : Int32, v = Int32.ofNat (ocN (plW W.2.1 c)) → (v ≤ Int32.ofNat n → ib (Int32.ofNat c) 24 ∧ (K (.inl (some (.int (Int32.ofNat (orW W c n).1)))) (τ.wi 1931 c (Int32.ofNat (orW W c n).1)))) ∧ (¬ v ≤ Int32.ofNat n → B_X23_nodeCount_0 Z (d + 4) τ (Int32.ofNat c) (Int32.ofNat n) (yI K fun v8 τ6 => (Int32.ofNat n ≤ 0 → B_X23_order_28 Z (d + 5) τ6 (Int32.ofNat c) (Int32.ofNat n) v8 (Int32.ofNat n + 1) K) ∧ (¬ Int32.ofNat n ≤ 0 → (v8 < Int32.ofNat (orW W c n).2 → B_X23_order_28 Z (d + 5) τ6 (Int32.ofNat c) (Int32.ofNat n) v8 (Int32.ofNat n + 1) K) ∧ (¬ v8 < Int32.ofNat (orW W c n).2 → B_X23_order_28 Z (d + 5) τ6 (Int32.ofNat c) (Int32.ofNat (orW W c n).1) (Int32.ofNat (orW W c n).2) (Int32.ofNat n + 1) K)))) := by
          rintro v rfl
          refine ⟨fun q => ?_, fun _ => ?_⟩
          · exfalso
            rw [oN_le (by omega) (by omega)] at q
            omega
          · refine rf_nodeCount (d := d) Hτ hc hmk hnl G (fun τ6 g6 o6 G6 => ?_)
            have nx := ih (n + 1) τ6 (by omega) (by omega) (g.tr g6) (o6.trans o1) G6
            rw [orW] at nx
            refine ⟨fun q => ?_, fun q => ⟨fun w => ?_, fun w => ?_⟩⟩
            · rw [show (0 : Int32) = Int32.ofNat 0 from rfl, oN_le (by omega) (by omega)] at q
              rw [if_pos (Or.inl (by omega))] at nx
              rw [oN_1]
              exact nx
            · rw [oN_lt (by omega) (by omega)] at w
              rw [if_pos (Or.inr w)] at nx
              rw [oN_1]
              exact nx
            · rw [show (0 : Int32) = Int32.ofNat 0 from rfl, oN_le (by omega) (by omega)] at q
              rw [oN_lt (by omega) (by omega)] at w
              rw [if_neg (by omega)] at nx
              rw [oN_1]
              exact nx
        refine S_X23_orderCount_0 Hτ.1 ⟨fun z1 => ⟨fun z2 => go 6 ?_, fun z2 => go 2 ?_⟩, fun z1 => go 1 ?_⟩
        · have n1 : plW W.2.1 c ≠ 1 := fun q => z1 (by rw [q]; rfl)
          have n2 : plW W.2.1 c ≠ 2 := fun q => z2 (by rw [q]; rfl)
          unfold ocN
          rw [if_neg n1, if_neg n2]
          rfl
        · have n1 : plW W.2.1 c ≠ 1 := fun q => z1 (by rw [q]; rfl)
          rw [show (2 : Int32) = Int32.ofNat 2 from rfl, oN_eq (by omega) (by omega)] at z2
          unfold ocN
          rw [if_neg n1, if_pos z2]
          rfl
        · rw [show (1 : Int32) = Int32.ofNat 1 from rfl, oN_eq (by omega) (by omega)] at z1
          unfold ocN
          rw [if_pos z1]
          rfl
    exact loop _ 0 τ rfl (Nat.zero_le _) g o1 G
  · rw [oN_t (by omega)] at z ⊢
    rcases hO c hc with q | q
    · rw [q] at z
      exact absurd (by decide) z
    · rw [q]
      exact h σ (LtF.refl σ) hO
end NODES2

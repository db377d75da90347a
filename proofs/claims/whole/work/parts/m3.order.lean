/-! PURE: nearer is an order -/
/-- what is above is above -/
def TrW (ks : List Knd) : Prop := ∀ a b c, a < ks.length → b ∈ rwW ks 1 a → c ∈ rwW ks 1 b → c ∈ rwW ks 1 a
/-- rows as they should be, without the heap -/
def RoW (ks : List Knd) : Prop := ∀ a, a < ks.length → ∀ w, w < 3 → (rwW ks w a).Nodup ∧ ∀ y, (y ∈ rwW ks w a → y ≤ a) ∧ (y ∈ rwW ks w a ↔ y ∈ rwW ks 0 a)
theorem WK.ro {ks : List Knd} {σ : Sg} (h : WK ks σ) : RoW ks := fun a ha w hw => ⟨(rw_ok h ha hw).1, (rw_ok h ha hw).2.2.1⟩
section ORD
variable {W : Wld} {wy c pl x y z : Nat} {k : Nat → Nat}
/-- a method of the call, that fits -/
def FtM (W : Wld) (c : Nat) (k : Nat → Nat) (m : Nat) : Prop := mcW W.2.2.2 m = c ∧ ∀ p, p < plW W.2.1 c → k p < W.1.length ∧ kdW W.2.2.2 m p < W.1.length ∧ kdW W.2.2.2 m p ∈ rwW W.1 1 (k p)
/-- nearer by kinds -/
def LtK (W : Wld) (wy c : Nat) (k a b : Nat → Nat) : Prop := if wyW W.2.1 c = 0 then ∃ f, f < plW W.2.1 c ∧ plI (rwW W.1 wy (k f)) (a f) < plI (rwW W.1 wy (k f)) (b f) ∧ ∀ i, i < f → a i = b i else if wyW W.2.1 c = 1 then (∀ i, i < plW W.2.1 c → b i ∈ rwW W.1 1 (a i)) ∧ ∃ i, i < plW W.2.1 c ∧ a i ≠ b i else ∃ sa sb : Int, sa < sb ∧ (∀ n, n = plW W.2.1 c → sa = ((List.range n).map fun i => plI (rwW W.1 wy (k i)) (a i)).sum ∧ sb = ((List.range n).map fun i => plI (rwW W.1 wy (k i)) (b i)).sum)
theorem pl_inj (hR : RoW W.1) (hw : wy < 3) {a u v : Nat} (ha : a < W.1.length) (hu : u ∈ rwW W.1 1 a) (hv : v ∈ rwW W.1 1 a) (h : plI (rwW W.1 wy a) u = plI (rwW W.1 wy a) v) : u = v := by
  have h1 := hR a ha 1 (by decide)
  have hy := hR a ha wy hw
  have iu := (hy.2 u).2.mpr ((h1.2 u).2.mp hu)
  have iv := (hy.2 v).2.mpr ((h1.2 v).2.mp hv)
  obtain ⟨i, hi⟩ := List.mem_iff_getElem?.mp iu
  obtain ⟨j, hj⟩ := List.mem_iff_getElem?.mp iv
  have li := (List.getElem?_eq_some_iff.mp hi).1
  have lj := (List.getElem?_eq_some_iff.mp hj).1
  have e1 := plI_some hi (fun q hq e => by have := (List.getElem?_inj (by omega) hy.1).mp (e.trans hi.symm); omega)
  have e2 := plI_some hj (fun q hq e => by have := (List.getElem?_inj (by omega) hy.1).mp (e.trans hj.symm); omega)
  have : i = j := by omega
  rw [this, hj] at hi
  exact (Option.some.inj hi).symm
theorem sm_sum (W : Wld) (wy : Nat) (k : Nat → Nat) (m : Nat) : ∀ n, smI W wy k m n = ((List.range n).map fun i => plI (rwW W.1 wy (k i)) (kdW W.2.2.2 m i)).sum
  | 0 => rfl
  | n + 1 => by
    rw [smI, sm_sum W wy k m n, List.range_succ, List.map_append, List.sum_append]
    simp
theorem ltK_ne (h : LtK W wy c k (kdW W.2.2.2 x) (kdW W.2.2.2 y)) : ∃ i, i < plW W.2.1 c ∧ kdW W.2.2.2 x i ≠ kdW W.2.2.2 y i := by
  unfold LtK at h
  split at h
  · obtain ⟨f, h1, h2, h3⟩ := h
    refine ⟨f, h1, fun e => ?_⟩
    rw [e] at h2
    omega
  · split at h
    · exact h.2
    · obtain ⟨sa, sb, h1, h2⟩ := h
      obtain ⟨e1, e2⟩ := h2 _ rfl
      refine Classical.byContradiction fun q => ?_
      have : ∀ i ∈ List.range (plW W.2.1 c), plI (rwW W.1 wy (k i)) (kdW W.2.2.2 x i) = plI (rwW W.1 wy (k i)) (kdW W.2.2.2 y i) := fun i hi => by
        have : kdW W.2.2.2 x i = kdW W.2.2.2 y i := Classical.byContradiction fun e => q ⟨i, List.mem_range.mp hi, e⟩
        rw [this]
      rw [List.map_congr_left this] at e1
      omega
theorem fd_noneZ (h : fdO W.2.2.2 pl x y = none) : ∀ i, i < pl → kdW W.2.2.2 x i = kdW W.2.2.2 y i := fun i hi => by
  unfold fdO at h
  rw [List.find?_eq_none] at h
  have := h i (List.mem_range.mpr hi)
  simpa using this
theorem fd_eq (h : ∀ i, i < pl → kdW W.2.2.2 x i = kdW W.2.2.2 y i) : fdO W.2.2.2 pl x y = none := by
  unfold fdO
  rw [List.find?_eq_none]
  intro i hi
  rw [decide_eq_true_iff]
  exact fun q => q (h i (List.mem_range.mp hi))
/-- nearer: by kinds, or by what is asked -/
theorem lt_iff (hR : RoW W.1) (hw : wy < 3) (hx : FtM W c k x) (hy : FtM W c k y) : nrI W wy x y k = -1 ↔ ((∀ i, i < plW W.2.1 c → kdW W.2.2.2 x i = kdW W.2.2.2 y i) ∧ akN W x y k = -1) ∨ LtK W wy c k (kdW W.2.2.2 x) (kdW W.2.2.2 y) := by
  rw [nr_rk, hx.1]
  cases hf : fdO W.2.2.2 (plW W.2.1 c) x y with
  | none =>
    have eq := fd_noneZ hf
    have e : rkI W wy (plW W.2.1 c) x y k = akN W x y k := by
      unfold rkI akN
      rw [hf, hx.1]
    rw [e]
    constructor
    · exact fun q => Or.inl ⟨eq, q⟩
    · rintro (q | q)
      · exact q.2
      · obtain ⟨i, h1, h2⟩ := ltK_ne q
        exact absurd (eq i h1) h2
  | some f =>
    obtain ⟨g1, g2, g3⟩ := fdO_some hf
    have ne : ¬ ∀ i, i < plW W.2.1 c → kdW W.2.2.2 x i = kdW W.2.2.2 y i := fun q => g2 (q f g1)
    have e : (((∀ i, i < plW W.2.1 c → kdW W.2.2.2 x i = kdW W.2.2.2 y i) ∧ akN W x y k = -1) ∨ LtK W wy c k (kdW W.2.2.2 x) (kdW W.2.2.2 y)) ↔ LtK W wy c k (kdW W.2.2.2 x) (kdW W.2.2.2 y) := ⟨fun q => q.elim (fun q => absurd q.1 ne) id, Or.inr⟩
    rw [e]
    unfold rkI LtK
    rw [hf, hx.1]
    dsimp only
    by_cases w0 : wyW W.2.1 c = 0
    · rw [if_pos w0, if_pos w0]
      constructor
      · intro q
        refine ⟨f, g1, ?_, g3⟩
        split at q
        · assumption
        · exact absurd q (by decide)
      · rintro ⟨f', a1, a2, a3⟩
        have : f' = f := by
          rcases Nat.lt_trichotomy f' f with q | q | q
          · rw [g3 f' q] at a2
            omega
          · exact q
          · exact absurd (a3 f q) g2
        subst this
        rw [if_pos a2]
    · rw [if_neg w0, if_neg w0]
      by_cases w1 : wyW W.2.1 c = 1
      · rw [if_pos w1, if_pos w1]
        have al : ((List.range (plW W.2.1 c)).all fun i => blW W.1 (kdW W.2.2.2 x i) (kdW W.2.2.2 y i)) = true ↔ ∀ i, i < plW W.2.1 c → kdW W.2.2.2 y i ∈ rwW W.1 1 (kdW W.2.2.2 x i) := by
          rw [List.all_eq_true]
          exact ⟨fun q i hi => of_decide_eq_true (q i (List.mem_range.mpr hi)), fun q i hi => decide_eq_true (q i (List.mem_range.mp hi))⟩
        constructor
        · intro q
          split at q
          · rename_i q1
            exact ⟨al.mp q1, f, g1, g2⟩
          · split at q
            · exact absurd q (by decide)
            · exact absurd q (by decide)
        · intro q
          rw [if_pos (al.mpr q.1)]
      · rw [if_neg w1, if_neg w1]
        rw [sm_sum, sm_sum]
        constructor
        · intro q
          refine ⟨((List.range (plW W.2.1 c)).map fun i => plI (rwW W.1 wy (k i)) (kdW W.2.2.2 x i)).sum, ((List.range (plW W.2.1 c)).map fun i => plI (rwW W.1 wy (k i)) (kdW W.2.2.2 y i)).sum, ?_, fun n hn => by subst hn; exact ⟨rfl, rfl⟩⟩
          unfold sg3 at q
          split at q
          · omega
          · split at q
            · exact absurd q (by decide)
            · exact absurd q (by decide)
        · rintro ⟨sa, sb, h1, h2⟩
          obtain ⟨e1, e2⟩ := h2 _ rfl
          rw [← e1, ← e2]
          unfold sg3
          rw [if_pos (by omega)]
theorem pD_lt {P Q : Prop} : (if pD P = pD Q then (0 : Int) else if pD P = true then 1 else -1) = -1 ↔ Q ∧ ¬ P := by
  have t : ∀ {R : Prop}, R → pD R = true := fun h => pD_iff.mpr h
  have f : ∀ {R : Prop}, ¬ R → pD R = false := fun h => Bool.eq_false_iff.mpr (fun z => h (pD_iff.mp z))
  by_cases p : P
  · by_cases q : Q
    · rw [t p, t q]
      exact ⟨fun z => absurd z (by decide), fun z => absurd p z.2⟩
    · rw [t p, f q]
      exact ⟨fun z => absurd z (by decide), fun z => absurd p z.2⟩
  · by_cases q : Q
    · rw [f p, t q]
      exact ⟨fun _ => ⟨q, p⟩, fun _ => by decide⟩
    · rw [f p, f q]
      exact ⟨fun z => absurd z (by decide), fun z => absurd z.1 q⟩
theorem akN_lt (hx : mcW W.2.2.2 x = c) (hy : mcW W.2.2.2 y = c) : akN W x y k = -1 ↔ (∃ v, InR v ∧ tkW W (plW W.2.1 c) k v y = true ∧ tkW W (plW W.2.1 c) k v x = false) ∧ ¬ ∃ v, InR v ∧ tkW W (plW W.2.1 c) k v x = true ∧ tkW W (plW W.2.1 c) k v y = false := by
  unfold akN akI
  rw [hx]
  have e1 : alP (plW W.2.1 c) (blW W.1) k (spM W.2.2.2 x, tsM W.2.2.2 x) (spM W.2.2.2 y, tsM W.2.2.2 y) ↔ ∃ v, InR v ∧ tkW W (plW W.2.1 c) k v x = true ∧ tkW W (plW W.2.1 c) k v y = false := Iff.rfl
  have e2 : alP (plW W.2.1 c) (blW W.1) k (spM W.2.2.2 y, tsM W.2.2.2 y) (spM W.2.2.2 x, tsM W.2.2.2 x) ↔ ∃ v, InR v ∧ tkW W (plW W.2.1 c) k v y = true ∧ tkW W (plW W.2.1 c) k v x = false := Iff.rfl
  rw [← e1, ← e2]
  exact pD_lt
theorem ltK_cg {a a' b b' : Nat → Nat} (h1 : ∀ i, i < plW W.2.1 c → a i = a' i) (h2 : ∀ i, i < plW W.2.1 c → b i = b' i) (h : LtK W wy c k a b) : LtK W wy c k a' b' := by
  unfold LtK at *
  split at h
  · rename_i w0
    rw [if_pos w0]
    obtain ⟨f, g1, g2, g3⟩ := h
    exact ⟨f, g1, by rw [← h1 f g1, ← h2 f g1]; exact g2, fun i hi => by rw [← h1 i (by omega), ← h2 i (by omega)]; exact g3 i hi⟩
  · rename_i w0
    rw [if_neg w0]
    split at h
    · rename_i w1
      rw [if_pos w1]
      obtain ⟨g1, i, g2, g3⟩ := h
      exact ⟨fun i hi => by rw [← h1 i hi, ← h2 i hi]; exact g1 i hi, i, g2, by rw [← h1 i g2, ← h2 i g2]; exact g3⟩
    · rename_i w1
      rw [if_neg w1]
      obtain ⟨sa, sb, g1, g2⟩ := h
      refine ⟨sa, sb, g1, fun n hn => ?_⟩
      obtain ⟨e1, e2⟩ := g2 n hn
      subst hn
      refine ⟨e1.trans ?_, e2.trans ?_⟩
      · exact congrArg List.sum (List.map_congr_left (fun i hi => by rw [h1 i (List.mem_range.mp hi)]))
      · exact congrArg List.sum (List.map_congr_left (fun i hi => by rw [h2 i (List.mem_range.mp hi)]))
theorem ltK_tr (hR : RoW W.1) (hT : TrW W.1) (hw : wy < 3) (hx : FtM W c k x) (hy : FtM W c k y) (hz : FtM W c k z) (h : LtK W wy c k (kdW W.2.2.2 x) (kdW W.2.2.2 y)) (g : LtK W wy c k (kdW W.2.2.2 y) (kdW W.2.2.2 z)) : LtK W wy c k (kdW W.2.2.2 x) (kdW W.2.2.2 z) := by
  unfold LtK at *
  by_cases w0 : wyW W.2.1 c = 0
  · rw [if_pos w0] at h g ⊢
    obtain ⟨f, h1, h2, h3⟩ := h
    obtain ⟨f', g1, g2, g3⟩ := g
    rcases Nat.lt_trichotomy f f' with q | q | q
    · exact ⟨f, h1, by rw [← g3 f q]; exact h2, fun i hi => (h3 i hi).trans (g3 i (by omega))⟩
    · subst q
      exact ⟨f, h1, by omega, fun i hi => (h3 i hi).trans (g3 i hi)⟩
    · exact ⟨f', g1, by rw [h3 f' q]; exact g2, fun i hi => (h3 i (by omega)).trans (g3 i hi)⟩
  · rw [if_neg w0] at h g ⊢
    by_cases w1 : wyW W.2.1 c = 1
    · rw [if_pos w1] at h g ⊢
      obtain ⟨h1, i, h2, h3⟩ := h
      obtain ⟨g1, -⟩ := g
      refine ⟨fun j hj => hT _ _ _ (hx.2 j hj).2.1 (h1 j hj) (g1 j hj), i, h2, fun e => h3 ?_⟩
      have a1 := ((hR _ (hx.2 i h2).2.1 1 (by decide)).2 _).1 (h1 i h2)
      have a2 := ((hR _ (hy.2 i h2).2.1 1 (by decide)).2 _).1 (g1 i h2)
      omega
    · rw [if_neg w1] at h g ⊢
      obtain ⟨sa, sb, h1, h2⟩ := h
      obtain ⟨sb', sc, g1, g2⟩ := g
      obtain ⟨e1, e2⟩ := h2 _ rfl
      obtain ⟨e3, e4⟩ := g2 _ rfl
      refine ⟨sa, sc, by omega, fun n hn => ?_⟩
      subst hn
      exact ⟨e1, e4⟩
theorem lt_tr (hR : RoW W.1) (hT : TrW W.1) (hw : wy < 3) (hx : FtM W c k x) (hy : FtM W c k y) (hz : FtM W c k z) (h : nrI W wy x y k = -1) (g : nrI W wy y z k = -1) : nrI W wy x z k = -1 := by
  rw [lt_iff hR hw hx hy] at h
  rw [lt_iff hR hw hy hz] at g
  rw [lt_iff hR hw hx hz]
  rcases h with ⟨h1, h2⟩ | h
  · rcases g with ⟨g1, g2⟩ | g
    · refine Or.inl ⟨fun i hi => (h1 i hi).trans (g1 i hi), ?_⟩
      rw [akN_lt hx.1 hy.1] at h2
      rw [akN_lt hy.1 hz.1] at g2
      rw [akN_lt hx.1 hz.1]
      obtain ⟨⟨v, a1, a2, a3⟩, a4⟩ := h2
      obtain ⟨-, b4⟩ := g2
      refine ⟨⟨v, a1, ?_, a3⟩, ?_⟩
      · cases e : tkW W (plW W.2.1 c) k v z with
        | true => rfl
        | false => exact absurd ⟨v, a1, a2, e⟩ b4
      · rintro ⟨v', q1, q2, q3⟩
        cases e : tkW W (plW W.2.1 c) k v' y with
        | true => exact b4 ⟨v', q1, e, q3⟩
        | false => exact a4 ⟨v', q1, q2, e⟩
    · exact Or.inr (ltK_cg (fun i hi => (h1 i hi).symm) (fun i hi => rfl) g)
  · rcases g with ⟨g1, g2⟩ | g
    · exact Or.inr (ltK_cg (fun i hi => rfl) g1 h)
    · exact Or.inr (ltK_tr hR hT hw hx hy hz h g)
theorem lt_irr (x : Nat) : nrI W wy x x k ≠ -1 := by
  unfold nrI
  rw [if_pos rfl]
  decide
end ORD
/-! PURE: the nearest of a list -/
section NST
variable {lt : Nat → Nat → Prop} {L : List Nat}
/-- in a finite order there is a least one below or at each -/
theorem ord_min (tr : ∀ x ∈ L, ∀ y ∈ L, ∀ z ∈ L, lt x y → lt y z → lt x z) (ir : ∀ x, ¬ lt x x) : ∀ (n : Nat) (S : List Nat), S.length ≤ n → (∀ x ∈ S, x ∈ L) → S ≠ [] → ∃ m ∈ S, ∀ y ∈ S, ¬ lt y m := by
  intro n
  induction n with
  | zero =>
    intro S hS _ ne
    exact absurd (List.length_eq_zero_iff.mp (by omega)) ne
  | succ n ih =>
    intro S hS hL ne
    match S, ne with
    | a :: r, _ =>
      by_cases hr : r = []
      · subst hr
        refine ⟨a, List.mem_cons_self .., fun y hy => ?_⟩
        rw [List.mem_singleton] at hy
        rw [hy]
        exact ir a
      · obtain ⟨m, m1, m2⟩ := ih r (by rw [List.length_cons] at hS; omega) (fun x hx => hL x (List.mem_cons_of_mem _ hx)) hr
        by_cases q : lt a m
        · refine ⟨a, List.mem_cons_self .., fun y hy => ?_⟩
          rcases List.mem_cons.mp hy with rfl | hy
          · exact ir y
          · exact fun z => m2 y hy (tr y (hL y (List.mem_cons_of_mem _ hy)) a (hL a (List.mem_cons_self ..)) m (hL m (List.mem_cons_of_mem _ m1)) z q)
        · refine ⟨m, List.mem_cons_of_mem _ m1, fun y hy => ?_⟩
          rcases List.mem_cons.mp hy with rfl | hy
          · exact q
          · exact m2 y hy
/-- just one has none nearer: it is nearer than all others -/
theorem ord_one (tr : ∀ x ∈ L, ∀ y ∈ L, ∀ z ∈ L, lt x y → lt y z → lt x z) (ir : ∀ x, ¬ lt x x) {b : Nat} (hb : b ∈ L) (h : ∀ y ∈ L, (∀ z ∈ L, ¬ lt z y) → y = b) : ∀ y ∈ L, y ≠ b → lt b y := fun y hy ne => by
  refine Classical.byContradiction fun q => ?_
  have mem : ∀ x, x ∈ L.filter (fun x => pD (x = y ∨ lt x y)) ↔ x ∈ L ∧ (x = y ∨ lt x y) := fun x => by
    rw [List.mem_filter, pD_iff]
  obtain ⟨m, m1, m2⟩ := ord_min tr ir _ (L.filter fun x => pD (x = y ∨ lt x y)) (Nat.le_refl _) (fun x hx => ((mem x).mp hx).1) (fun e => by
    have := (mem y).mpr ⟨hy, Or.inl rfl⟩
    rw [e] at this
    cases this)
  obtain ⟨m3, m4⟩ := (mem m).mp m1
  have mb := h m m3 (fun z hz zm => m2 z ((mem z).mpr ⟨hz, Or.inr (m4.elim (fun e => by rw [← e]; exact zm) (fun e => tr z hz m m3 y hy zm e))⟩) zm)
  rcases m4 with e | e
  · exact ne (e.symm.trans mb)
  · rw [mb] at e
    exact q e
end NST

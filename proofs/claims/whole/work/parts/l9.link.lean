/-! PURE: both sides count the same sets -/
section LINK
variable {W : Wld} {c o n m pl oo : Nat} {t : Nat → Nat}
theorem fS_z (W : Wld) (c i k m : Nat) : fS W c i k m = (mnS W c m && fiZ W i k m) := by
  unfold fS mnS fiZ
  by_cases h : mcW W.2.2.2 m = c
  · rw [h]
    simp only [decide_true]
    cases decide (m < W.2.2.2.length + 1) <;> cases decide (gnW W.2.2.2 m = 0) <;> cases decide (i < plW W.2.1 c) <;> cases decide (kdW W.2.2.2 m i ∈ rwW W.1 1 k) <;> rfl
  · rw [decide_eq_false h]
    simp only [Bool.and_false, Bool.false_and]
theorem anS_z (W : Wld) (c i m : Nat) : anS W c i m = (mnS W c m && anZ W i m) := by
  unfold anS anZ
  cases h : mnS W c m with
  | true =>
    rw [Bool.true_and]
    congr 1
    funext k
    rw [fS_z, h, Bool.true_and]
  | false =>
    rw [Bool.false_and, List.any_eq_false]
    intro k _
    rw [fS_z, h]
    exact Bool.false_ne_true
/-- who is left behind n places, by the other words -/
def bsZ (W : Wld) (c : Nat) (op t : Nat → Nat) (n m : Nat) : Bool := mnS W c m && (List.range n).all fun i => fS W c (op i) (t i) m
/-- an order of the places -/
def OpO (op : Nat → Nat) (pl : Nat) : Prop := (∀ j, j < pl → op j < pl) ∧ ∀ p, p < pl → ∃ j, j < pl ∧ op j = p
theorem set_eq (hn : n < plW W.2.1 c) (ho : OpO (opC oo) (plW W.2.1 c)) (he : ∀ j, j < plW W.2.1 c → opP (plW W.2.1 c) o j = opC oo j) (ht : ∀ i, i < n → t i ∈ mkW W.1) (m : Nat) : sZ W c oo t n m = (bsZ W c (opP (plW W.2.1 c) o) t n m && (anS W c (opP (plW W.2.1 c) o n) m && rsS W c o n m)) := by
  rw [Bool.eq_iff_iff]
  unfold sZ lvZ bsZ rsS
  simp only [Bool.and_eq_true, List.all_eq_true, List.mem_range, Bool.or_eq_true, decide_eq_true_iff]
  constructor
  · rintro ⟨⟨h1, h2⟩, h3⟩
    refine ⟨⟨h1, fun i hi => ?_⟩, ?_, fun j hj => Or.inr ?_⟩
    · rw [fS_z, he i (by omega), h1, h3 i hi]
      rfl
    · rw [anS_z, h1, he n hn, h2 _ (ho.1 n hn)]
      rfl
    · rw [anS_z, h1, he j hj, h2 _ (ho.1 j hj)]
      rfl
  · rintro ⟨⟨h1, h2⟩, h3, h4⟩
    refine ⟨⟨h1, fun p hp => ?_⟩, fun i hi => ?_⟩
    · obtain ⟨j, hj, rfl⟩ := ho.2 p hp
      by_cases q : j < n
      · have := h2 j q
        rw [fS_z, he j hj, h1, Bool.true_and] at this
        unfold anZ
        rw [List.any_eq_true]
        exact ⟨_, ht j q, this⟩
      · by_cases q2 : j = n
        · subst q2
          rw [anS_z, he j hj, h1] at h3
          exact h3
        · have := h4 j hj
          rcases this with z | z
          · omega
          · rw [anS_z, he j hj, h1] at z
            exact z
    · have := h2 i hi
      rw [fS_z, he i (by omega), h1] at this
      exact this
theorem var_eq (h : mnS W c m = true) (i : Nat) : (anZ W i m && !awZ W i m) = vrS W c i m := by
  rw [Bool.eq_iff_iff, Bool.and_eq_true, Bool.not_eq_true']
  have f : ∀ k, fS W c i k m = fiZ W i k m := fun k => by
    rw [fS_z, h]
    rfl
  unfold anZ awZ vrS
  constructor
  · rintro ⟨h1, h2⟩
    obtain ⟨k1, k2, k3⟩ := List.any_eq_true.mp h1
    obtain ⟨k4, k5, k6⟩ := List.all_eq_false.mp h2
    rw [List.any_eq_true]
    rw [f]
    cases e : fiZ W i ((mkW W.1).getD 0 0) m with
    | true =>
      refine ⟨k4, k5, ?_⟩
      rw [f, Bool.eq_false_iff.mpr k6]
      rfl
    | false =>
      refine ⟨k1, k2, ?_⟩
      rw [f, k3]
      rfl
  · intro h1
    obtain ⟨k1, k2, k3⟩ := List.any_eq_true.mp h1
    rw [f, f] at k3
    have hm : (mkW W.1).getD 0 0 ∈ mkW W.1 := by
      cases e : mkW W.1 with
      | nil =>
        rw [e] at k2
        cases k2
      | cons a r => exact List.mem_cons_self ..
    rw [List.any_eq_true, List.all_eq_false]
    cases e : fiZ W i ((mkW W.1).getD 0 0) m with
    | true =>
      refine ⟨⟨_, hm, e⟩, k1, k2, ?_⟩
      rw [e] at k3
      intro z
      rw [z] at k3
      cases k3
    | false =>
      rw [e] at k3
      refine ⟨⟨k1, k2, ?_⟩, _, hm, by rw [e]; exact Bool.false_ne_true⟩
      cases e2 : fiZ W i k1 m with
      | true => rfl
      | false =>
        rw [e2] at k3
        cases k3
theorem mt_eqZ (hn : n < plW W.2.1 c) (ho : OpO (opC oo) (plW W.2.1 c)) (he : ∀ j, j < plW W.2.1 c → opP (plW W.2.1 c) o j = opC oo j) (ht : ∀ i, i < n → t i ∈ mkW W.1) (m : Nat) : (sZ W c oo t n m && !awZ W (opC oo n) m) = (bsZ W c (opP (plW W.2.1 c) o) t n m && (vrS W c (opP (plW W.2.1 c) o n) m && rsS W c o n m)) := by
  rw [set_eq hn ho he ht m]
  cases hb : bsZ W c (opP (plW W.2.1 c) o) t n m with
  | false => rfl
  | true =>
    have hm : mnS W c m = true := by
      unfold bsZ at hb
      exact (Bool.and_eq_true_iff.mp hb).1
    rw [← var_eq hm, anS_z, hm, he n hn]
    cases anZ W (opC oo n) m <;> cases rsS W c o n m <;> cases awZ W (opC oo n) m <;> rfl
theorem mtZ_eq (hn : n < plW W.2.1 c) (ho : OpO (opC oo) (plW W.2.1 c)) (he : ∀ j, j < plW W.2.1 c → opP (plW W.2.1 c) o j = opC oo j) (ht : ∀ i, i < n → t i ∈ mkW W.1) : mtZ W (opC oo n) (sZ W c oo t n) = (List.range 128).any fun j => bsZ W c (opP (plW W.2.1 c) o) t n (j + 1) && (vrS W c (opP (plW W.2.1 c) o n) (j + 1) && rsS W c o n (j + 1)) := by
  unfold mtZ
  congr 1
  funext j
  exact mt_eqZ hn ho he ht (j + 1)
/-- orders: this one's number for that one's -/
def ooM (pl o : Nat) : Nat := if pl = 2 then 2 * o else o
theorem op_eq {pl o : Nat} (h1 : 1 ≤ pl) (h3 : pl ≤ 3) (ho : o < ocN pl) : ooM pl o < 6 ∧ OpO (opC (ooM pl o)) pl ∧ ∀ j, j < pl → opP pl o j = opC (ooM pl o) j := by
  have hp : pl = 1 ∨ pl = 2 ∨ pl = 3 := by omega
  have key : ∀ pl : Fin 4, ∀ o : Fin 6, 1 ≤ pl.val → o.val < ocN pl.val → ooM pl.val o.val < 6 ∧ (∀ j : Fin 3, j.val < pl.val → opC (ooM pl.val o.val) j.val < pl.val ∧ opP pl.val o.val j.val = opC (ooM pl.val o.val) j.val) ∧ ∀ p : Fin 3, p.val < pl.val → ∃ j : Fin 3, j.val < pl.val ∧ opC (ooM pl.val o.val) j.val = p.val := by decide +kernel
  have o6 : o < 6 := by
    have := (oc_b (pl := pl)).2
    omega
  obtain ⟨k1, k2, k3⟩ := key ⟨pl, by omega⟩ ⟨o, o6⟩ h1 ho
  refine ⟨k1, ⟨fun j hj => (k2 ⟨j, by omega⟩ hj).1, fun p hp => ?_⟩, fun j hj => (k2 ⟨j, by omega⟩ hj).2⟩
  obtain ⟨j, j1, j2⟩ := k3 ⟨p, by omega⟩ hp
  exact ⟨j.val, j1, j2⟩
theorem tup_in (W : Wld) {t : Nat × Nat × Nat} (h1 : t.1 < nZ W n 0) (h2 : t.2.1 < nZ W n 1) (h3 : t.2.2 < nZ W n 2) (hn : n ≤ 3) : ∀ i, i < n → tupM W t i ∈ mkW W.1 := fun i hi => by
  have a : (if i = 0 then t.1 else if i = 1 then t.2.1 else t.2.2) < (mkW W.1).length := by
    unfold nZ at h1 h2 h3
    have : i = 0 ∨ i = 1 ∨ i = 2 := by omega
    rcases this with rfl | rfl | rfl
    · rw [if_neg (by omega)] at h1
      exact h1
    · rw [if_neg (by omega)] at h2
      exact h2
    · rw [if_neg (by omega)] at h3
      exact h3
  unfold tupM
  rw [List.getD_eq_getElem?_getD, List.getElem?_eq_getElem a]
  exact List.getElem_mem _
/-- nodes that ask at one place -/
theorem cn_nod (hn : n < plW W.2.1 c) (h3 : plW W.2.1 c ≤ 3) (ho : OpO (opC oo) (plW W.2.1 c)) (he : ∀ j, j < plW W.2.1 c → opP (plW W.2.1 c) o j = opC oo j) : cnZ W c oo n = nodA W c o n := by
  have bs2 : ∀ (t : Nat → Nat) (q : Nat × Nat), (0 < n → t 0 = q.1) → (1 < n → t 1 = q.2) → ∀ m, bsZ W c (opP (plW W.2.1 c) o) t n m = ndS W c o n q m := fun t q e0 e1 m => by
    unfold bsZ ndS
    have : n = 0 ∨ n = 1 ∨ n = 2 := by omega
    rcases this with rfl | rfl | rfl
    · rw [List.range_zero, List.all_nil, decide_eq_true (show 0 = 0 from rfl), decide_eq_true (show 0 ≤ 1 by decide)]
      simp
    · rw [show List.range 1 = [0] from rfl, decide_eq_false (show ¬ 1 = 0 by decide), decide_eq_true (show 1 ≤ 1 by decide), ← e0 (by decide)]
      simp
    · rw [show List.range 2 = [0, 1] from rfl, decide_eq_false (show ¬ 2 = 0 by decide), decide_eq_false (show ¬ 2 ≤ 1 by decide), ← e0 (by decide), ← e1 (by decide)]
      simp [Bool.and_assoc]
  have seq : ∀ (t : Nat × Nat × Nat) (q : Nat × Nat), t ∈ tiL (nZ W n 0) (nZ W n 1) (nZ W n 2) → (0 < n → tupM W t 0 = q.1) → (1 < n → tupM W t 1 = q.2) → cdZ W c oo n (tupM W t) = ndM W c o n q ∧ seL (sZ W c oo (tupM W t) n) = seL (ndL W c o n q) := fun t q ht e0 e1 => by
    obtain ⟨q1, q2, q3⟩ := tiL_mem.mp ht
    have ti := tup_in W q1 q2 q3 (by omega)
    have b := bs2 (tupM W t) q e0 e1
    refine ⟨?_, ?_⟩
    · unfold cdZ ndM
      rw [decide_eq_false (by omega), Bool.false_or, mtZ_eq hn ho he ti]
      congr 1
      funext j
      rw [b]
    · congr 1
      funext m
      rw [set_eq hn ho he ti, b]
      rfl
  unfold cnZ nodA
  refine dsN_mem (fun y => ?_)
  rw [List.mem_map, List.mem_map]
  constructor
  · rintro ⟨t, ht, rfl⟩
    obtain ⟨h1, h2⟩ := List.mem_filter.mp ht
    have tb := tiL_mem.mp h1
    have ti := tup_in W tb.1 tb.2.1 tb.2.2 (by omega)
    obtain ⟨s1, s2⟩ := seq t (if 0 < n then tupM W t 0 else 0, if 1 < n then tupM W t 1 else 0) h1 (fun z => (if_pos z).symm) (fun z => (if_pos z).symm)
    refine ⟨(if 0 < n then tupM W t 0 else 0, if 1 < n then tupM W t 1 else 0), List.mem_filter.mpr ⟨t2L_mem.mpr ⟨?_, ?_⟩, by rw [← s1]; exact h2⟩, s2.symm⟩
    · dsimp only
      split
      · exact ti 0 (by omega)
      · exact List.mem_singleton.mpr rfl
    · dsimp only
      split
      · exact ti 1 (by omega)
      · exact List.mem_singleton.mpr rfl
  · rintro ⟨q, hq, rfl⟩
    obtain ⟨h1, h2⟩ := List.mem_filter.mp hq
    obtain ⟨m1, m2⟩ := t2L_mem.mp h1
    have ex : ∀ (b : Bool) (x : Nat) (i : Nat), (x ∈ if i < n then mkW W.1 else [0]) → ∃ a, a < nZ W n i ∧ (i < n → (mkW W.1).getD a 0 = x) := fun b x i hx => by
      by_cases z : i < n
      · rw [if_pos z] at hx
        obtain ⟨a, ha⟩ := List.mem_iff_getElem?.mp hx
        refine ⟨a, ?_, fun _ => by rw [List.getD_eq_getElem?_getD, ha]; rfl⟩
        unfold nZ
        rw [if_neg (by omega)]
        exact (List.getElem?_eq_some_iff.mp ha).1
      · refine ⟨0, ?_, fun q => absurd q z⟩
        unfold nZ
        rw [if_pos (by omega)]
        decide
    obtain ⟨a, a1, a2⟩ := ex true q.1 0 m1
    obtain ⟨b, b1, b2⟩ := ex true q.2 1 m2
    have c1 : 0 < nZ W n 2 := by
      unfold nZ
      rw [if_pos (by omega)]
      decide
    have ht : (a, b, 0) ∈ tiL (nZ W n 0) (nZ W n 1) (nZ W n 2) := tiL_mem.mpr ⟨a1, b1, c1⟩
    obtain ⟨s1, s2⟩ := seq (a, b, 0) q ht (fun z => a2 z) (fun z => b2 z)
    exact ⟨(a, b, 0), List.mem_filter.mpr ⟨ht, by rw [s1]; exact h2⟩, s2⟩
/-- lists -/
theorem cn_ls (h1 : 1 ≤ plW W.2.1 c) (h3 : plW W.2.1 c ≤ 3) : cnZ W c 0 (plW W.2.1 c) = lsN W c := by
  generalize hp : plW W.2.1 c = pl at *
  have o0 : ∀ i, i < 3 → opC 0 i = i := fun i hi => by
    have : i = 0 ∨ i = 1 ∨ i = 2 := by omega
    rcases this with rfl | rfl | rfl <;> rfl
  have seq : ∀ (t : Nat × Nat × Nat) (q : Nat × Nat × Nat), t ∈ tiL (nZ W pl 0) (nZ W pl 1) (nZ W pl 2) → tupM W t 0 = q.1 → (1 < pl → tupM W t 1 = q.2.1) → (2 < pl → tupM W t 2 = q.2.2) → seL (sZ W c 0 (tupM W t) pl) = seL (ftT W c pl q) := fun t q ht e0 e1 e2 => by
    obtain ⟨q1, q2, q3⟩ := tiL_mem.mp ht
    have ti := tup_in W q1 q2 q3 h3
    congr 1
    funext m
    have ft : ftT W c pl q m = (mnS W c m && (List.range pl).all fun i => fiZ W i (tupM W t i) m) := by
      unfold ftT
      rw [fS_z, fS_z, fS_z, ← e0]
      have : pl = 1 ∨ pl = 2 ∨ pl = 3 := by omega
      rcases this with rfl | rfl | rfl
      · rw [show List.range 1 = [0] from rfl, decide_eq_true (show 1 ≤ 1 by decide), decide_eq_true (show 1 ≤ 2 by decide)]
        simp
      · rw [show List.range 2 = [0, 1] from rfl, decide_eq_false (show ¬ 2 ≤ 1 by decide), decide_eq_true (show 2 ≤ 2 by decide), ← e1 (by decide)]
        cases mnS W c m <;> simp
      · rw [show List.range 3 = [0, 1, 2] from rfl, decide_eq_false (show ¬ 3 ≤ 1 by decide), decide_eq_false (show ¬ 3 ≤ 2 by decide), ← e1 (by decide), ← e2 (by decide)]
        cases mnS W c m <;> simp [Bool.and_assoc]
    rw [ft, Bool.eq_iff_iff]
    unfold sZ lvZ
    rw [hp]
    simp only [Bool.and_eq_true, List.all_eq_true, List.mem_range]
    constructor
    · rintro ⟨⟨a1, a2⟩, a3⟩
      refine ⟨a1, fun i hi => ?_⟩
      have := a3 i hi
      rw [o0 i (by omega)] at this
      exact this
    · rintro ⟨a1, a2⟩
      refine ⟨⟨a1, fun p hp' => ?_⟩, fun i hi => ?_⟩
      · unfold anZ
        rw [List.any_eq_true]
        exact ⟨_, ti p hp', a2 p hp'⟩
      · rw [o0 i (by omega)]
        exact a2 i hi
  unfold cnZ lsN
  rw [hp]
  refine dsN_mem (fun y => ?_)
  have ct : ∀ t, cdZ W c 0 pl t = true := fun t => by
    unfold cdZ
    rw [decide_eq_true hp.symm]
    rfl
  rw [List.filter_eq_self.mpr (fun t _ => ct _), List.mem_map, List.mem_map]
  have mT : ∀ q : Nat × Nat × Nat, q ∈ tuL pl (mkW W.1) (mkW W.1) (mkW W.1) ↔ q.1 ∈ mkW W.1 ∧ (q.2.1 ∈ if 1 < pl then mkW W.1 else [0]) ∧ (q.2.2 ∈ if 2 < pl then mkW W.1 else [0]) := fun q => by
    unfold tuL
    rw [List.mem_flatMap]
    constructor
    · rintro ⟨x, hx, h⟩
      obtain ⟨y, hy, h⟩ := List.mem_flatMap.mp h
      obtain ⟨z, hz, rfl⟩ := List.mem_map.mp h
      exact ⟨hx, hy, hz⟩
    · rintro ⟨a1, a2, a3⟩
      exact ⟨q.1, a1, List.mem_flatMap.mpr ⟨q.2.1, a2, List.mem_map.mpr ⟨q.2.2, a3, rfl⟩⟩⟩
  constructor
  · rintro ⟨t, ht, rfl⟩
    have tb := tiL_mem.mp ht
    have ti := tup_in W tb.1 tb.2.1 tb.2.2 h3
    refine ⟨(tupM W t 0, if 1 < pl then tupM W t 1 else 0, if 2 < pl then tupM W t 2 else 0), (mT _).mpr ⟨ti 0 (by omega), ?_, ?_⟩, (seq t _ ht rfl (fun z => (if_pos z).symm) (fun z => (if_pos z).symm)).symm⟩
    · dsimp only
      split
      · exact ti 1 (by omega)
      · exact List.mem_singleton.mpr rfl
    · dsimp only
      split
      · exact ti 2 (by omega)
      · exact List.mem_singleton.mpr rfl
  · rintro ⟨q, hq, rfl⟩
    obtain ⟨m1, m2, m3⟩ := (mT q).mp hq
    have ex : ∀ (x : Nat) (i : Nat), (x ∈ if i < pl then mkW W.1 else [0]) → ∃ a, a < nZ W pl i ∧ (i < pl → (mkW W.1).getD a 0 = x) := fun x i hx => by
      by_cases z : i < pl
      · rw [if_pos z] at hx
        obtain ⟨a, ha⟩ := List.mem_iff_getElem?.mp hx
        refine ⟨a, ?_, fun _ => by rw [List.getD_eq_getElem?_getD, ha]; rfl⟩
        unfold nZ
        rw [if_neg (by omega)]
        exact (List.getElem?_eq_some_iff.mp ha).1
      · refine ⟨0, ?_, fun q => absurd q z⟩
        unfold nZ
        rw [if_pos (by omega)]
        decide
    obtain ⟨a, a1, a2⟩ := ex q.1 0 (by rw [if_pos (by omega)]; exact m1)
    obtain ⟨b, b1, b2⟩ := ex q.2.1 1 m2
    obtain ⟨e, e1, e2⟩ := ex q.2.2 2 m3
    have ht : (a, b, e) ∈ tiL (nZ W pl 0) (nZ W pl 1) (nZ W pl 2) := tiL_mem.mpr ⟨a1, b1, e1⟩
    exact ⟨(a, b, e), ht, seq (a, b, e) q ht (a2 (by omega)) (fun z => b2 z) (fun z => e2 z)⟩
end LINK

/-! THE CLASS: kinds; the rows by ways 1 and 2 -/
section FIL
variable {Z : zT} {d : Nat} {σ τ υ : Sg} {K : kS}
/-- a row of ints is filled -/
theorem cl_fillI {a n2 : Nat} {v : Int32} (F : FX ΦC σ.sh σ.r) (hs : σ.sh[a]? = some (Sh.arr 0 n2)) (hn : n2 < 1000000) (k : ∀ τ, τ.sh = σ.sh → τ.l = σ.l → τ.r = σ.r → (∀ b, b ≠ a → τ.i b = σ.i b) → (∀ j, j < n2 → τ.i a j = v) → (∀ j, n2 ≤ j → τ.i a j = σ.i a j) → K (.inl none) τ) : C_J7_fill_53178_0 Z (d + 1) σ a v K := by
  have go : ∀ m j τ, n2 - j = m → j ≤ n2 → τ.sh = σ.sh → τ.l = σ.l → τ.r = σ.r → (∀ b, b ≠ a → τ.i b = σ.i b) → (∀ i, i < j → τ.i a i = v) → (∀ i, n2 ≤ i → τ.i a i = σ.i a i) → C_J7_fill_53178_5 Z (d + 1) τ a v (Int32.ofNat j) (Int32.ofNat n2) K := by
    intro m
    induction m with
    | zero =>
      intro j τ hm hj g1 g2 g3 g4 g5 g6
      refine T_J7_fill_53178_5 (by rw [g1, g3]; exact F) ?_
      rw [oN_le (by omega) (by omega)]
      exact ⟨fun _ => k τ g1 g2 g3 g4 (fun i hi => g5 i (by omega)) g6, fun z => absurd (by omega) z⟩
    | succ m ih =>
      intro j τ hm hj g1 g2 g3 g4 g5 g6
      refine T_J7_fill_53178_5 (by rw [g1, g3]; exact F) ?_
      rw [oN_le (by omega) (by omega)]
      refine ⟨fun z => absurd z (by omega), fun _ => ⟨n2, by rw [g1]; exact hs, ib_oN (by omega) (by omega), ?_⟩⟩
      rw [oN_1, oN_t (by omega)]
      refine ih (j + 1) _ (by omega) (by omega) g1 g2 g3 (fun b hb => (wi_row hb).trans (g4 b hb)) (fun i hi => ?_) (fun i hi => (wi_ne (by omega)).trans (g6 i hi))
      by_cases e : i = j
      · subst e
        exact wi_eq
      · exact (wi_ne (by omega)).trans (g5 i (by omega))
  exact T_J7_fill_53178_0 F ⟨n2, hs, go n2 0 σ rfl (Nat.zero_le _) rfl rfl rfl (fun _ _ => rfl) (fun i hi => by omega) (fun _ _ => rfl)⟩
end FIL
theorem jn1_mem {L : List Nat} {y z : Nat} : z ∈ jn1 L y ↔ z ∈ L ∨ z = y := by
  unfold jn1
  by_cases h : y ∈ L
  · rw [if_pos h]
    exact ⟨fun q => Or.inl q, fun q => q.elim id (fun e => by rw [e]; exact h)⟩
  · rw [if_neg h, List.mem_append, List.mem_singleton]
theorem jn1_nd {L : List Nat} {y : Nat} (h : L.Nodup) : (jn1 L y).Nodup := by
  unfold jn1
  by_cases q : y ∈ L
  · rw [if_pos q]
    exact h
  · rw [if_neg q]
    exact List.nodup_append.mpr ⟨h, List.nodup_cons.mpr ⟨by simp, List.nodup_nil⟩, fun a ha b hb => by
      rw [List.mem_singleton.mp hb]
      exact fun z => q (z ▸ ha)⟩
theorem jn1_all : ∀ (xs L : List Nat), L.Nodup → (xs.foldl jn1 L).Nodup ∧ ∀ z, z ∈ xs.foldl jn1 L ↔ z ∈ L ∨ z ∈ xs
  | [], L, h => ⟨h, fun z => by simp⟩
  | x :: xs, L, h => by
    obtain ⟨g1, g2⟩ := jn1_all xs (jn1 L x) (jn1_nd h)
    refine ⟨g1, fun z => ?_⟩
    rw [List.foldl_cons, g2 z, jn1_mem, List.mem_cons, or_assoc]
/-- each at its last place -/
def dR : List Nat → List Nat
  | [] => []
  | y :: ys => if y ∈ dR ys then dR ys else y :: dR ys
theorem dR_mem : ∀ (xs : List Nat) z, z ∈ dR xs ↔ z ∈ xs
  | [], z => Iff.rfl
  | y :: ys, z => by
    have ih := dR_mem ys
    rw [dR]
    by_cases h : y ∈ dR ys
    · rw [if_pos h, ih z, List.mem_cons]
      exact ⟨fun q => Or.inr q, fun q => q.elim (fun e => by rw [e]; exact (ih y).mp h) id⟩
    · rw [if_neg h, List.mem_cons, List.mem_cons, ih z]
theorem dR_nd : ∀ xs : List Nat, (dR xs).Nodup
  | [] => List.nodup_nil
  | y :: ys => by
    rw [dR]
    by_cases h : y ∈ dR ys
    · rw [if_pos h]
      exact dR_nd ys
    · rw [if_neg h]
      exact List.nodup_cons.mpr ⟨h, dR_nd ys⟩
theorem jn2_fold : ∀ (xs L : List Nat), L.Nodup → xs.foldl jn2 L = (L.filter fun z => decide (z ∉ xs)) ++ dR xs
  | [], L, h => by
    rw [List.foldl_nil, dR, List.append_nil]
    symm
    rw [List.filter_eq_self]
    intro a _
    simp
  | y :: ys, L, h => by
    have e : jn2 L y = (L.filter fun z => decide (z ≠ y)) ++ [y] := by
      unfold jn2
      by_cases q : y ∈ L
      · rw [if_pos q, h.erase_eq_filter]
        congr 1
        refine List.filter_congr fun z _ => ?_
        by_cases w : z = y
        · simp [w]
        · simp [w]
      · rw [if_neg q]
        congr 1
        symm
        rw [List.filter_eq_self]
        intro a ha
        exact decide_eq_true (fun z => q (z ▸ ha))
    have nd : (jn2 L y).Nodup := by
      rw [e]
      refine List.nodup_append.mpr ⟨h.sublist List.filter_sublist, List.nodup_cons.mpr ⟨by simp, List.nodup_nil⟩, fun a ha b hb => ?_⟩
      rw [List.mem_singleton.mp hb]
      exact of_decide_eq_true (List.mem_filter.mp ha).2
    rw [List.foldl_cons, jn2_fold ys _ nd, e, List.filter_append, List.filter_filter, List.append_assoc]
    congr 1
    · refine List.filter_congr fun z _ => ?_
      by_cases w : z = y
      · simp [w]
      · simp [w]
    · rw [dR]
      by_cases q : y ∈ dR ys
      · have q' := (dR_mem ys y).mp q
        rw [if_pos q]
        simp [q']
      · have q' : y ∉ ys := fun z => q ((dR_mem ys y).mpr z)
        rw [if_neg q]
        simp [q']
section JNS
variable {Z : zT} {d : Nat} {σ τ υ : Sg} {K : kS} {ks : List Knd} {ps : List Nat} {k : Nat}
theorem KxS.pp (X : KxS ks ps k σ) {j p : Nat} (h : ps[j]? = some p) : σ.i 6 j = Int32.ofNat p ∧ p < k ∧ j < 24 := by
  have := (List.getElem?_eq_some_iff.mp h).1
  have := X.2.2.2.2.1
  exact ⟨(X.2.2.2.2.2 j p h).1, (X.2.2.2.2.2 j p h).2, by omega⟩
/-- only kind k's row by way w is written -/
def KG (w k : Nat) (σ τ : Sg) : Prop := τ.sh = σ.sh ∧ τ.l = σ.l ∧ τ.r = σ.r ∧ ∀ a j, ¬ (a = 7 ∧ j / 24 = w * 24 + k) → τ.i a j = σ.i a j
theorem KG.refl (w k : Nat) (σ : Sg) : KG w k σ σ := ⟨rfl, rfl, rfl, fun _ _ _ => rfl⟩
theorem KG.tr {w : Nat} (h : KG w k σ τ) (g : KG w k τ υ) : KG w k σ υ := ⟨g.1.trans h.1, g.2.1.trans h.2.1, g.2.2.1.trans h.2.2.1, fun a j q => (g.2.2.2 a j q).trans (h.2.2.2 a j q)⟩
theorem KG.kf {w : Nat} (hk : k < 24) (h : KG w k σ τ) : KF k σ τ := ⟨h.1, h.2.1, h.2.2.1, fun a j q => h.2.2.2 a j (fun z => q (Or.inr (Or.inl ⟨Or.inl z.1, by omega⟩)))⟩
theorem KG.wi {w i : Nat} {v : Int32} (hi : i < 24) : KG w k σ (σ.wi 7 ((w * 24 + k) * 24 + i) v) := ⟨rfl, rfl, rfl, fun a j q => wi_ne (fun z => q ⟨z.1, by omega⟩)⟩
/-- the row by way 1, one parent's row -/
theorem j1_29 {j p : Nat} (X : KxS ks ps k σ) (hp : ps[j]? = some p) : ∀ m i (L : List Nat) (τ : Sg) (msk : Int32), (rwW ks 1 p).length - i = m → i ≤ (rwW ks 1 p).length → KG 1 k σ τ → RwC 1 k (k :: L) τ → BtS msk (k :: L) → L.Nodup → (∀ z ∈ L, z < k) → (∀ υ msk', KG 1 k σ υ → RwC 1 k (k :: ((rwW ks 1 p).drop i).foldl jn1 L) υ → BtS msk' (k :: ((rwW ks 1 p).drop i).foldl jn1 L) → (((rwW ks 1 p).drop i).foldl jn1 L).Nodup → (∀ z ∈ ((rwW ks 1 p).drop i).foldl jn1 L, z < k) → C_X2_joinByFirst_17 Z (d + 2) υ (Int32.ofNat k) msk' (Int32.ofNat (1 + (((rwW ks 1 p).drop i).foldl jn1 L).length)) (Int32.ofNat (j + 1)) K) → C_X2_joinByFirst_29 Z (d + 2) τ (Int32.ofNat k) msk (Int32.ofNat (1 + L.length)) (Int32.ofNat j) (Int32.ofNat i) K := by
  have hk := X.2.2.1
  intro m
  induction m with
  | zero =>
    intro i L τ msk hm hi hF hR hB nd hL kk
    have X1 := X.kf (hF.kf (by omega))
    obtain ⟨q1, q2, q3⟩ := X1.pp hp
    obtain ⟨r1, r2, r3, r4⟩ := rw_ok X1.2.1 (p := p) (by omega) (w := 1) (by decide)
    refine T_X2_joinByFirst_29 X1.1 ?_
    rw [oN_t (show j < 2147483648 by omega), q1, oN_t (by omega), (rw_at X1.2.1 (p := p) (by omega) (w := 1) (by decide)).1, oN_le (by omega) (by omega)]
    refine ⟨ib_oN (by omega) (by omega), ib_oN (by omega) (by omega), fun _ => ?_, fun z => absurd (by omega) z⟩
    rw [oN_1]
    have e : (rwW ks 1 p).drop i = [] := List.drop_eq_nil_iff.mpr (by omega)
    rw [e] at kk
    exact kk τ msk hF hR hB nd hL
  | succ m ih =>
    intro i L τ msk hm hi hF hR hB nd hL kk
    have X1 := X.kf (hF.kf (by omega))
    obtain ⟨q1, q2, q3⟩ := X1.pp hp
    obtain ⟨r1, r2, r3, r4⟩ := rw_ok X1.2.1 (p := p) (by omega) (w := 1) (by decide)
    have hlt : i < (rwW ks 1 p).length := by omega
    obtain ⟨y, hy⟩ : ∃ y, (rwW ks 1 p)[i]? = some y := ⟨_, List.getElem?_eq_getElem hlt⟩
    have yk : y < k := by
      have := (r3 y).1 (List.mem_of_getElem? hy)
      omega
    have ed : (rwW ks 1 p).drop i = y :: (rwW ks 1 p).drop (i + 1) := by
      rw [List.drop_eq_getElem_cons hlt]
      congr 1
      exact Option.some.inj ((List.getElem?_eq_getElem hlt).symm.trans hy)
    rw [ed, List.foldl_cons] at kk
    refine T_X2_joinByFirst_29 X1.1 ?_
    rw [oN_t (show j < 2147483648 by omega), q1, oN_t (by omega), (rw_at X1.2.1 (p := p) (by omega) (w := 1) (by decide)).1, oN_le (by omega) (by omega)]
    refine ⟨ib_oN (by omega) (by omega), ib_oN (by omega) (by omega), fun z => absurd z (by omega), fun _ => ⟨ib_oN (by omega) (by omega), cl_row (w := 1) X1.1 X1.2.1 (by omega) (by decide) hy ?_⟩⟩
    have bt := bt_t hB (y := y) (by omega)
    refine ⟨fun z => ?_, fun z => ?_⟩
    · have my : y ∈ L := by
        have : ¬ y ∉ k :: L := fun q => z (bt.mpr q)
        rcases List.mem_cons.mp (Decidable.not_not.mp this) with e | e
        · omega
        · exact e
      have e : jn1 L y = L := if_pos my
      rw [e] at kk
      rw [oN_1]
      exact ih (i + 1) L τ msk (by omega) (by omega) hF hR hB nd hL kk
    · have my : y ∉ k :: L := bt.mp z
      have my2 : y ∉ L := fun q => my (List.mem_cons_of_mem _ q)
      have e : jn1 L y = L ++ [y] := if_neg my2
      have nd2 : (jn1 L y).Nodup := jn1_nd nd
      have hL2 : ∀ z ∈ jn1 L y, z < k := fun z hz => (jn1_mem.mp hz).elim (hL z) (fun e => by rw [e]; exact yk)
      have ll := nd_len k _ nd2 hL2
      rw [e, List.length_append, List.length_singleton] at ll
      rw [e] at kk nd2 hL2
      refine cl_putR (w := 1) (p := k) (i := 1 + L.length) X1.1 (by omega) (by decide) (by omega) ?_
      have e2 : 1 + L.length = (k :: L).length := by rw [List.length_cons]; omega
      rw [oN_1, oN_1, show 1 + L.length + 1 = 1 + (L ++ [y]).length by rw [List.length_append, List.length_singleton]; omega]
      refine ih (i + 1) (L ++ [y]) _ _ (by omega) (by omega) (hF.tr (KG.wi (by omega))) ?_ (bt_or hB (bt_1 (k := y) (by omega)) (fun z => ?_)) nd2 hL2 kk
      · rw [e2]
        exact hR.snoc
      · simp only [List.mem_cons, List.mem_append, List.not_mem_nil, or_false, or_assoc]
theorem j1_17 (X : KxS ks ps k σ) : ∀ m j (L : List Nat) (τ : Sg) (msk : Int32), ps.length - j = m → j ≤ ps.length → KG 1 k σ τ → RwC 1 k (k :: L) τ → BtS msk (k :: L) → L.Nodup → (∀ z ∈ L, z < k) → (∀ υ, KG 1 k σ υ → RwC 1 k (k :: ((ps.drop j).flatMap (rwW ks 1)).foldl jn1 L) υ → K (.inl none) υ) → C_X2_joinByFirst_17 Z (d + 2) τ (Int32.ofNat k) msk (Int32.ofNat (1 + L.length)) (Int32.ofNat j) K := by
  have hk := X.2.2.1
  intro m
  induction m with
  | zero =>
    intro j L τ msk hm hj hF hR hB nd hL kk
    have X1 := X.kf (hF.kf (by omega))
    obtain ⟨p1, p2, -⟩ := X1.2.2.2
    refine T_X2_joinByFirst_17 X1.1 ?_
    rw [p1, oN_le (by omega) (by omega)]
    refine ⟨fun _ => kk τ hF ?_, fun z => absurd (by omega) z⟩
    rw [List.drop_eq_nil_iff.mpr (by omega)]
    exact hR
  | succ m ih =>
    intro j L τ msk hm hj hF hR hB nd hL kk
    have X1 := X.kf (hF.kf (by omega))
    obtain ⟨p1, p2, -⟩ := X1.2.2.2
    have hlt : j < ps.length := by omega
    obtain ⟨p, hp⟩ : ∃ p, ps[j]? = some p := ⟨_, List.getElem?_eq_getElem hlt⟩
    have ed : ps.drop j = p :: ps.drop (j + 1) := by
      rw [List.drop_eq_getElem_cons hlt]
      congr 1
      exact Option.some.inj ((List.getElem?_eq_getElem hlt).symm.trans hp)
    rw [ed, List.flatMap_cons, List.foldl_append] at kk
    refine T_X2_joinByFirst_17 X1.1 ?_
    rw [p1, oN_le (by omega) (by omega)]
    refine ⟨fun z => absurd z (by omega), fun _ => j1_29 X hp _ 0 L τ msk rfl (Nat.zero_le _) hF hR hB nd hL (fun υ msk' a1 a2 a3 a4 a5 => ?_)⟩
    rw [List.drop_zero] at a2 a3 a4 a5 ⊢
    exact ih (j + 1) _ υ msk' (by omega) (by omega) a1 a2 a3 a4 a5 kk
theorem cl_join1 (X : KxS ks ps k σ) (kk : ∀ υ, KG 1 k σ υ → RwC 1 k (k :: (ps.flatMap (rwW ks 1)).foldl jn1 []) υ → K (.inl none) υ) : C_X2_joinByFirst_0 Z (d + 2) σ (Int32.ofNat k) K := by
  have hk := X.2.2.1
  refine T_X2_joinByFirst_0 X.1 (cl_putR (w := 1) (p := k) (i := 0) X.1 (by omega) (by decide) (by omega) ?_)
  refine j1_17 X _ 0 [] _ _ rfl (Nat.zero_le _) (KG.wi (by omega)) (fun i y hy => ?_) (bt_1 (by omega)) List.nodup_nil (fun z hz => by cases hz) kk
  have hi := (List.getElem?_eq_some_iff.mp hy).1
  have e : i = 0 := by
    have : [k].length = 1 := rfl
    omega
  subst e
  have e : k = y := Option.some.inj hy
  subst e
  exact wi_eq
end JNS

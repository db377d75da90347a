/-! THE CLASS: a kind is made, whole -/
section MK2
variable {Z : zT} {d : Nat} {σ τ υ : Sg} {K : kS} {ks : List Knd} {ps : List Nat} {k : Nat}
/-- all that is above the parents -/
def abL (ks : List Knd) (ps : List Nat) (k : Nat) : List Nat := (List.range k).filter fun y => decide (y ∈ ps.flatMap (rwW ks 0))
theorem abv_mem (X : KxS ks ps k σ) (y : Nat) : y ∈ abL ks ps k ↔ y ∈ ps.flatMap (rwW ks 0) := by
  unfold abL
  rw [List.mem_filter, List.mem_range]
  refine ⟨fun q => of_decide_eq_true q.2, fun q => ⟨?_, decide_eq_true q⟩⟩
  obtain ⟨p, hp, hy⟩ := List.mem_flatMap.mp q
  obtain ⟨i, hi⟩ := List.mem_iff_getElem?.mp hp
  have hk := X.2.2.1
  have := (X.pp hi).2.1
  have := ((rw_ok X.2.1 (p := p) (by omega) (w := 0) (by decide)).2.2.1 y).1 hy
  omega
theorem abv_w (X : KxS ks ps k σ) {w : Nat} (hw : w < 3) (y : Nat) : y ∈ ps.flatMap (rwW ks w) ↔ y ∈ abL ks ps k := by
  rw [abv_mem X, List.mem_flatMap, List.mem_flatMap]
  have hk := X.2.2.1
  have key : ∀ p ∈ ps, (y ∈ rwW ks w p ↔ y ∈ rwW ks 0 p) := fun p hp => by
    obtain ⟨i, hi⟩ := List.mem_iff_getElem?.mp hp
    have := (X.pp hi).2.1
    exact ((rw_ok X.2.1 (p := p) (by omega) (w := w) hw).2.2.1 y).2
  exact ⟨fun ⟨p, h1, h2⟩ => ⟨p, h1, (key p h1).mp h2⟩, fun ⟨p, h1, h2⟩ => ⟨p, h1, (key p h1).mpr h2⟩⟩
theorem abv_nd (ks : List Knd) (ps : List Nat) (k : Nat) : (abL ks ps k).Nodup := List.Nodup.sublist List.filter_sublist List.nodup_range
theorem abv_lt {y : Nat} (h : y ∈ abL ks ps k) : y < k := List.mem_range.mp (List.mem_filter.mp h).1
theorem abv_len (ks : List Knd) (ps : List Nat) (k : Nat) : (abL ks ps k).length ≤ k := nd_len k _ (abv_nd ks ps k) (fun z hz => abv_lt hz)
theorem abv_LL (X : KxS ks ps k σ) (y : Nat) : y ∈ abL ks ps k ↔ ∃ l ∈ ps.map (rwW ks 0) ++ [ps], y ∈ l := by
  have hk := X.2.2.1
  rw [abv_mem X, List.mem_flatMap]
  constructor
  · intro ⟨p, h1, h2⟩
    exact ⟨rwW ks 0 p, List.mem_append_left _ (List.mem_map.mpr ⟨p, h1, rfl⟩), h2⟩
  · intro ⟨l, h1, h2⟩
    rcases List.mem_append.mp h1 with h1 | h1
    · obtain ⟨p, h3, rfl⟩ := List.mem_map.mp h1
      exact ⟨p, h3, h2⟩
    · rw [List.mem_singleton.mp h1] at h2
      obtain ⟨i, hi⟩ := List.mem_iff_getElem?.mp h2
      have := (X.pp hi).2.1
      exact ⟨y, h2, rw_self X.2.1 (by omega)⟩
/-- a kind's rows, made -/
theorem cl_make {b : Bool} {nm : List Int32} (X : KxS ks ps k σ) (k1 : ∀ υ, KF k σ υ → (rwN k ps (rwW ks)).2.2.2 = true → υ.i 3 k = (if b = true then 1 else 0) → KdC υ k (nm, b, ps, (rwN k ps (rwW ks)).1, (rwN k ps (rwW ks)).2.1, (rwN k ps (rwW ks)).2.2.1) → KdW k (nm, b, ps, (rwN k ps (rwW ks)).1, (rwN k ps (rwW ks)).2.1, (rwN k ps (rwW ks)).2.2.1) → K (.inl (some (.int 1))) υ) (k0 : ∀ υ, KF k σ υ → (rwN k ps (rwW ks)).2.2.2 = false → K (.inl (some (.int 0))) υ) : C_X2_make_0 Z (d + 6) σ (Int32.ofNat k) (if b = true then 1 else 0) K := by
  have hk := X.2.2.1
  have al := abv_len ks ps k
  have eb : vp_nar .boolean (if b = true then 1 else 0) = (if b = true then (1 : Int32) else 0) := by
    cases b <;> rfl
  refine T_X2_make_0 X.1 ⟨ib_oN (by omega) (by omega), ib_oN (by omega) (by omega), ?_⟩
  rw [oN_t (by omega), eb]
  have kf0 : KF k σ ((σ.wi 3 k (if b = true then 1 else 0)).wi 4 k ((1 : Int32) <<< (Int32.ofNat k &&& 31))) := (KF.wi (Or.inl ⟨Or.inl rfl, rfl⟩)).tr (KF.wi (Or.inl ⟨Or.inr (Or.inl rfl), rfl⟩))
  have X0 := X.kf kf0
  refine mk_18 (σ0 := (σ.wi 3 k (if b = true then 1 else 0)).wi 4 k ((1 : Int32) <<< (Int32.ofNat k &&& 31))) X0 (fun τ1 kf1 fr1 bt1 => ?_) _ 0 _ rfl (Nat.zero_le _) (KF.refl _ _) (fun _ _ _ => rfl) ?_
  · have X1 := X0.kf kf1
    obtain ⟨p1, p2, -⟩ := X1.2.2.2
    have e3 : τ1.i 3 k = if b = true then 1 else 0 := (fr1 3 k (by omega)).trans ((wi_ne (by omega)).trans wi_eq)
    have btD : BtS (τ1.i 4 k) (k :: abL ks ps k) := bt1.cg (fun y => by rw [List.mem_cons, List.mem_cons, abv_mem X])
    have ndD : (k :: abL ks ps k).Nodup := List.nodup_cons.mpr ⟨fun q => Nat.lt_irrefl _ (abv_lt q), abv_nd ks ps k⟩
    have pc := bt_pc btD ndD (fun y hy => by
      rcases List.mem_cons.mp hy with e | e
      · omega
      · have := abv_lt e
        omega)
    refine T_X2_make_18 X1.1 ?_
    rw [p1, oN_le (by omega) (by omega), oN_t (show k < 2147483648 by omega)]
    refine ⟨fun _ => ⟨ib_oN (by omega) (by omega), cl_bitI X1.1 ⟨ib_oN (by omega) (by omega), ?_⟩⟩, fun z => absurd (Nat.le_refl _) z⟩
    rw [pc, List.length_cons]
    have kf2 : KF k τ1 (τ1.wi 5 k (Int32.ofNat ((abL ks ps k).length + 1))) := KF.wi (Or.inl ⟨Or.inr (Or.inr rfl), rfl⟩)
    have X2 := X1.kf kf2
    have s9 : (τ1.wi 5 k (Int32.ofNat ((abL ks ps k).length + 1))).sh[9]? = some (Sh.arr 0 25) := X2.1.s (a := 9) rfl
    refine T_X2_merge_0 X2.1 (cl_fillI X2.1 s9 (by decide) (fun τ3 g1 g2 g3 g4 g5 g6 => ?_))
    have kf3 : KF k (τ1.wi 5 k (Int32.ofNat ((abL ks ps k).length + 1))) τ3 := ⟨g1, g2, g3, fun a j q => by rw [g4 a (fun z => q (Or.inr (Or.inr z)))]⟩
    have X3 := X2.kf kf3
    refine cl_putR (w := 0) (p := k) (i := 0) X3.1 (by omega) (by decide) (by omega) ?_
    have kf4 : KF k τ3 (τ3.wi 7 ((0 * 24 + k) * 24 + 0) (Int32.ofNat k)) := KF.rw (by omega) (by omega)
    have X4 := X3.kf kf4
    have kfA := (((kf0.tr kf1).tr kf2).tr kf3).tr kf4
    generalize hτ4 : τ3.wi 7 ((0 * 24 + k) * 24 + 0) (Int32.ofNat k) = τ4 at X4 kfA kf4 ⊢
    have f4 : ∀ a, a ≠ 5 → a ≠ 9 → a ≠ 7 → τ4.i a = τ1.i a := fun a q1 q2 q3 => by
      rw [← hτ4]
      exact (wi_row q3).trans ((g4 a q2).trans (wi_row q1))
    have e5 : τ4.i 5 k = Int32.ofNat ((abL ks ps k).length + 1) := by
      rw [← hτ4]
      exact (wi_ne (by omega)).trans ((congrFun (g4 5 (by decide)) k).trans wi_eq)
    have e70 : τ4.i 7 ((0 * 24 + k) * 24 + 0) = Int32.ofNat k := by
      rw [← hτ4]
      exact wi_eq
    have e9 : MgC (ps.map (rwW ks 0) ++ [ps]) (fun _ => 0) τ4 := fun j l hl => by
      have := (X4.ll hl).1
      rw [← hτ4]
      exact ⟨(wi_ne (by omega)).trans (g5 j this), Nat.zero_le _⟩
    have rw0 : RwC 0 k [k] τ4 := fun i y hy => by
      have hi := (List.getElem?_eq_some_iff.mp hy).1
      have e : i = 0 := by
        have : [k].length = 1 := rfl
        omega
      subst e
      have e : k = y := Option.some.inj hy
      subst e
      exact e70
    refine mg_go (d := d + 1) X4 _ [k] (abL ks ps k) (fun _ => 0) τ4 (k + 1) rfl (abv_nd ks ps k) (fun y => ?_) (fun y hy => abv_lt hy) (KF.refl _ _) (fun _ _ _ => rfl) e9 ?_ rw0 ?_ (by omega) (fun τ5 r kf5 s5 rwr mg ndr mr => ?_) (fun τ5 r kf5 s5 mg => ?_)
    · rw [rm_0]
      exact abv_LL X y
    · rw [e5, Nat.add_comm]
      rfl
    · show 1 + (abL ks ps k).length ≤ 24
      omega
    · -- the merge succeeded
      rw [rm_0] at mg
      have X5 := X4.kf kf5
      have er0 : (rwN k ps (rwW ks)).1 = k :: r := by
        unfold rwN
        rw [mg]
      have er3 : (rwN k ps (rwW ks)).2.2.2 = true := by
        unfold rwN
        rw [mg]
      refine ⟨fun _ => ?_, fun z => absurd z (by decide)⟩
      refine cl_join1 X5 (fun τ6 kg6 rw6 => ?_)
      have X6 := X5.kf (kg6.kf (by omega))
      have lr : r.length = (abL ks ps k).length := List.Perm.length_eq ((List.perm_ext_iff_of_nodup ndr (abv_nd ks ps k)).mpr mr)
      have e56 : τ6.i 5 k = Int32.ofNat ((abL ks ps k).length + 1) := (kg6.2.2.2 5 k (by omega)).trans ((congrFun (s5 5 (by decide) (by decide)) k).trans e5)
      refine cl_join2 (D := abL ks ps k) (n0 := (abL ks ps k).length + 1) X6 ⟨rfl, by omega⟩ e56 (fun p hp y hy => (abv_w X (w := 2) (by decide) y).mp (List.mem_flatMap.mpr ⟨p, hp, hy⟩)) (abv_nd ks ps k) (fun y hy => List.mem_flatMap.mp ((abv_w X (w := 2) (by decide) y).mpr hy)) (fun τ7 kg7 rw7 l7 => ?_)
      have X7 := X6.kf (kg7.kf (by omega))
      obtain ⟨n1, m1⟩ := jn1_all (ps.flatMap (rwW ks 1)) [] List.nodup_nil
      have m1 : ∀ z, z ∈ (ps.flatMap (rwW ks 1)).foldl jn1 [] ↔ z ∈ abL ks ps k := fun z => by
        rw [m1 z, abv_w X (w := 1) (by decide)]
        simp
      have m2 : ∀ z, z ∈ dR (ps.flatMap (rwW ks 2)) ↔ z ∈ abL ks ps k := fun z => by
        rw [dR_mem, abv_w X (w := 2) (by decide)]
      have e2 : (ps.flatMap (rwW ks 2)).foldl jn2 [] = dR (ps.flatMap (rwW ks 2)) := by
        rw [jn2_fold _ [] List.nodup_nil]
        rfl
      have er1 : (rwN k ps (rwW ks)).2.1 = k :: (ps.flatMap (rwW ks 1)).foldl jn1 [] := rfl
      have er2 : (rwN k ps (rwW ks)).2.2.1 = k :: dR (ps.flatMap (rwW ks 2)) := by
        unfold rwN
        rw [e2]
      have l1 : ((ps.flatMap (rwW ks 1)).foldl jn1 []).length = (abL ks ps k).length := List.Perm.length_eq ((List.perm_ext_iff_of_nodup n1 (abv_nd ks ps k)).mpr m1)
      -- the three rows
      have rows : ∀ w, w < 3 → ∃ L, rwK (nm, b, ps, (rwN k ps (rwW ks)).1, (rwN k ps (rwW ks)).2.1, (rwN k ps (rwW ks)).2.2.1) w = k :: L ∧ L.length = (abL ks ps k).length ∧ L.Nodup ∧ (∀ z, z ∈ L ↔ z ∈ abL ks ps k) ∧ RwC w k (k :: L) τ7 := fun w hw => by
        have : w = 0 ∨ w = 1 ∨ w = 2 := by omega
        rcases this with rfl | rfl | rfl
        · refine ⟨r, er0, lr, ndr, mr, fun i y hy => ?_⟩
          have hi := (List.getElem?_eq_some_iff.mp hy).1
          rw [List.length_cons] at hi
          exact (kg7.2.2.2 7 _ (by omega)).trans ((kg6.2.2.2 7 _ (by omega)).trans (rwr i y hy))
        · refine ⟨_, er1, l1, n1, m1, fun i y hy => ?_⟩
          have hi := (List.getElem?_eq_some_iff.mp hy).1
          rw [List.length_cons] at hi
          exact (kg7.2.2.2 7 _ (by omega)).trans (rw6 i y hy)
        · exact ⟨_, er2, l7, dR_nd _, m2, rw7⟩
      refine mk_89 (Ls := fun w => rwK (nm, b, ps, (rwN k ps (rwW ks)).1, (rwN k ps (rwW ks)).2.1, (rwN k ps (rwW ks)).2.2.1) w) (n0 := (abL ks ps k).length + 1) X7.1 (by omega) ((kg7.2.2.2 5 k (by omega)).trans e56) (fun w hw => ?_) (by omega) (fun τ8 h1 h2 h3 h4 h5 => ?_) _ 0 τ7 rfl (Nat.zero_le _) rfl rfl rfl (fun _ _ _ => rfl) (fun w' q => by omega)
      · obtain ⟨L, a1, a2, a3, a4, a5⟩ := rows w hw
        rw [a1]
        refine ⟨by rw [List.length_cons, a2], List.nodup_cons.mpr ⟨fun q => Nat.lt_irrefl _ (abv_lt ((a4 k).mp q)), a3⟩, a5, fun y hy => ?_⟩
        rcases List.mem_cons.mp hy with e | e
        · omega
        · have := abv_lt ((a4 y).mp e)
          omega
      · have kf8 : KF k τ7 τ8 := ⟨h1, h2, h3, fun a j q => h4 a j (fun z => q (Or.inr (Or.inl ⟨Or.inr z.1, z.2⟩)))⟩
        have kfZ := (((kfA.tr kf5).tr (kg6.kf (by omega))).tr (kg7.kf (by omega))).tr kf8
        have f48 : ∀ a, a = 3 ∨ a = 4 → τ8.i a k = τ5.i a k := fun a q => (h4 a k (by omega)).trans ((kg7.2.2.2 a k (by omega)).trans (kg6.2.2.2 a k (by omega)))
        have f45 : ∀ a, a = 3 ∨ a = 4 → τ5.i a k = τ1.i a k := fun a q => by
          rw [s5 a (by omega) (by omega), f4 a (by omega) (by omega) (by omega)]
        obtain ⟨L0, a1, a2, a3, a4, a5⟩ := rows 0 (by decide)
        have a1' : (rwN k ps (rwW ks)).1 = k :: L0 := a1
        have ln : ∀ L : List Nat, L.Nodup → (∀ z, z ∈ L ↔ z ∈ abL ks ps k) → (k :: L).Nodup := fun L q1 q2 => List.nodup_cons.mpr ⟨fun q => Nat.lt_irrefl _ (abv_lt ((q2 k).mp q)), q1⟩
        refine k1 τ8 kfZ er3 ((f48 3 (Or.inl rfl)).trans ((f45 3 (Or.inl rfl)).trans e3)) ⟨?_, ?_, fun w hw i y hy => ⟨?_, h5 w hw i y hy⟩⟩ ⟨?_, fun w hw => ?_⟩
        · rw [f48 4 (Or.inr rfl), f45 4 (Or.inr rfl)]
          refine btD.cg (fun y => ?_)
          show y ∈ (rwN k ps (rwW ks)).1 ↔ _
          rw [a1', List.mem_cons, List.mem_cons, a4 y]
        · show τ8.i 5 k = Int32.ofNat (rwN k ps (rwW ks)).1.length
          rw [a1', List.length_cons, a2]
          exact (h4 5 k (by omega)).trans ((kg7.2.2.2 5 k (by omega)).trans e56)
        · obtain ⟨L, b1, b2, b3, b4, b5⟩ := rows w hw
          rw [b1] at hy
          exact (h4 7 _ (by omega)).trans (b5 i y hy)
        · show k ∈ (rwN k ps (rwW ks)).1
          rw [a1']
          exact List.mem_cons_self
        · obtain ⟨L, b1, b2, b3, b4, b5⟩ := rows w hw
          rw [b1]
          show (k :: L).Nodup ∧ (k :: L).length = (rwN k ps (rwW ks)).1.length ∧ ∀ y, (y ∈ k :: L → y ≤ k) ∧ (y ∈ k :: L ↔ y ∈ (rwN k ps (rwW ks)).1)
          rw [a1']
          refine ⟨ln L b3 b4, by rw [List.length_cons, List.length_cons, b2, a2], fun y => ⟨fun q => ?_, ?_⟩⟩
          · rcases List.mem_cons.mp q with e | e
            · omega
            · have := abv_lt ((b4 y).mp e)
              omega
          · rw [List.mem_cons, List.mem_cons, b4 y, a4 y]
    · rw [rm_0] at mg
      refine ⟨fun z => absurd rfl z, fun _ => k0 τ5 (kfA.tr kf5) ?_⟩
      unfold rwN
      rw [mg]
  · show BtS (((σ.wi 3 k (if b = true then 1 else 0)).wi 4 k ((1 : Int32) <<< (Int32.ofNat k &&& 31))).i 4 k) (k :: (ps.take 0).flatMap (rwW ks 0))
    rw [wi_eq]
    exact bt_1 (by omega)
end MK2

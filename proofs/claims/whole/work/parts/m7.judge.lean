/-! THE CLASS: one row, judged -/
/-- what methods ask, one behind the other -/
def caQ (W : Wld) (k : Nat → Nat) (L : List Nat) : List AkQ := L.flatMap fun m => asQ (blW W.1) k (spM W.2.2.2 m) (tsM W.2.2.2 m)
def akL (W : Wld) (k : Nat → Nat) (m : Nat) : Nat := (asQ (blW W.1) k (spM W.2.2.2 m) (tsM W.2.2.2 m)).length
theorem caQ_len (W : Wld) (k : Nat → Nat) : ∀ L, (caQ W k L).length = (L.map (akL W k)).sum
  | [] => rfl
  | m :: L => by
    have e : caQ W k (m :: L) = asQ (blW W.1) k (spM W.2.2.2 m) (tsM W.2.2.2 m) ++ caQ W k L := rfl
    rw [e, List.length_append, caQ_len W k L, List.map_cons, List.sum_cons]
    rfl
theorem caQ_app (W : Wld) (k : Nat → Nat) (L M : List Nat) : caQ W k (L ++ M) = caQ W k L ++ caQ W k M := List.flatMap_append
section JUDGE
variable {Z : zT} {d A u : Nat} {σ σ0 τ υ : Sg} {K : kS} {C : Nat × Nat × Nat × Nat} {W : Wld} {wy a0 kA oA c m n : Nat} {k : Nat → Nat} {L : List Nat}
theorem st_ft (W : Wld) (c : Nat) (k : Nat → Nat) : stW W c k W.2.2.2.length = (ftL W c k).filter fun m => decide (rlM W.2.2.2 m = 0) && decide (lyM W.2.2.2 m < 0) := by
  unfold stW ftL pnB
  rw [List.filter_filter]
  refine List.filter_congr (fun m _ => ?_)
  cases mnB W.2.2.2 c m <;> cases ftB W m k <;> cases decide (rlM W.2.2.2 m = 0) <;> cases decide (lyM W.2.2.2 m < 0) <;> rfl
theorem st_in (hm : m ∈ stW W c k W.2.2.2.length) : m ∈ ftL W c k := by
  rw [st_ft] at hm
  exact (List.mem_filter.mp hm).1
theorem ft_nd (W : Wld) (c : Nat) (k : Nat → Nat) : (ftL W c k).Nodup := by
  unfold ftL
  refine List.Pairwise.sublist List.filter_sublist ?_
  exact List.Pairwise.map _ (fun a b h e => h (by simpa using e)) List.nodup_range
/-- what a method asks, measured -/
theorem akL_me (h : SkR C W a0 σ) (hk : ∀ p, p < plW W.2.1 c → k p < W.1.length) (hm : m ∈ ftL W c k) : akL W k m = meM W.2.2.2 m ∧ (akB W m = false → meM W.2.2.2 m = 0) ∧ akL W k m ≤ 9 := by
  obtain ⟨j, x, rfl, hx, -, ec, -⟩ := ft_at h hk hm
  obtain ⟨s1, s2, s3⟩ := spM_at hx
  have pp := h.plx hx
  obtain ⟨hj, mt, wf⟩ := h.at hx
  obtain ⟨t1, t2, t3, t4, t5⟩ := mt.2.2.2.2.1
  have me : meM W.2.2.2 (j + 1) = x.1.2.2.2.2.2.2 := by
    unfold meM
    rw [Nat.add_sub_cancel, hx]
    rfl
  have w8 : x.1.2.2.2.2.2.2 = lfN x.1.2.2.2.2.1 + hsN (plW W.2.1 x.1.1.toNat) x.1.2.2.2.1 := by
    obtain ⟨k0, w1, w2, w3, w4, w5, w6, w7, ⟨w8, w9, w10, w11⟩, -⟩ := wf
    rw [w1, Int.toNat_natCast]
    exact w9
  have w10 : x.1.2.2.2.2.1 ≠ .nil → 1 ≤ lfN x.1.2.2.2.2.1 := by
    obtain ⟨k0, w1, w2, w3, w4, w5, w6, w7, ⟨w8, w9, w10, w11⟩, -⟩ := wf
    exact w10
  -- equal numbers
  have hs3 : ∀ pl, pl ≤ 3 → x.1.2.2.2.1.length = pl → hsN pl x.1.2.2.2.1 = (eqA x.1.2.2.2.1 0).length + ((eqA x.1.2.2.2.1 1).length + (eqA x.1.2.2.2.1 2).length) := fun pl p3 pe => by
    have ext : hsN pl x.1.2.2.2.1 = ((List.range 3).filter fun i => hsI x.1.2.2.2.1 i).length := (flt_ext (q := fun i => hsI x.1.2.2.2.1 i) (fun i hi => sp_no (by omega)) 3 p3).symm
    rw [ext, eqA_len, eqA_len, eqA_len, show List.range 3 = [0, 1, 2] from rfl]
    rw [List.filter_cons, List.filter_cons, List.filter_cons, List.filter_nil]
    generalize hsI x.1.2.2.2.1 0 = a
    generalize hsI x.1.2.2.2.1 1 = b
    generalize hsI x.1.2.2.2.1 2 = e
    cases a <;> cases b <;> cases e <;> rfl
  have hh := hs3 _ pp.1 pp.2.1
  have al : akL W k (j + 1) = meM W.2.2.2 (j + 1) := by
    unfold akL asQ
    rw [s1, s2, me, w8, hh, List.length_append, List.length_append, List.length_append, List.length_map, t3]
    omega
  refine ⟨al, fun q => ?_, ?_⟩
  · unfold akB at q
    rw [s1, s2, s3, Bool.or_eq_false_iff] at q
    obtain ⟨q1, q2⟩ := q
    have en : x.1.2.2.2.2.1 = .nil := by
      cases e : x.1.2.2.2.2.1 <;> rw [e] at q2 <;> first | rfl | (cases q2)
    have h0 : hsN (plW W.2.1 x.1.1.toNat) x.1.2.2.2.1 = 0 := by
      unfold hsN
      rw [List.length_eq_zero_iff, List.filter_eq_nil_iff]
      intro i hi
      exact List.any_eq_false.mp q1 i hi
    rw [me, w8, h0, en]
    rfl
  · have := (asQ_W (k := k) h hx).2
    unfold akL
    rw [s1, s2]
    exact this
theorem me_sum (h : SkR C W a0 σ) (hk : ∀ p, p < plW W.2.1 c → k p < W.1.length) : ∀ L : List Nat, (∀ m ∈ L, m ∈ ftL W c k) → (L.map (akL W k)).sum = meS W (L.filter (akB W))
  | [], _ => rfl
  | m :: L, hL => by
    have ih := me_sum h hk L (fun x hx => hL x (List.mem_cons_of_mem _ hx))
    obtain ⟨e1, e2, -⟩ := akL_me h hk (hL m (List.mem_cons_self ..))
    rw [List.map_cons, List.sum_cons, ih, e1]
    cases q : akB W m with
    | true =>
      rw [List.filter_cons_of_pos q]
      unfold meS
      rw [List.map_cons, List.sum_cons]
    | false =>
      rw [List.filter_cons_of_neg (by rw [q]; exact Bool.false_ne_true), e2 q, Nat.zero_add]
/-- while a call is judged: rows 67 .. 82 are its own -/
def JdF (σ τ : Sg) : Prop := NhE (fun a => 67 ≤ a ∧ a ≤ 82) σ τ
theorem JdF.tr (h : JdF σ τ) (g : JdF τ υ) : JdF σ υ := NhE.tr h g
theorem QwS.jd (h : QwS C W wy a0 σ) (st : sqA σ = 47 ∨ 102 ≤ sqA σ) (g : JdF σ τ) : QwS C W wy a0 τ := h.he st g (fun a q => by omega)
/-- the plain ones without layers that fit -/
theorem cl_gather (h : QwS C W wy a0 σ) (hc : c < W.2.1.length) (ka : KaS W 71 (plW W.2.1 c) k σ) (kk : ∀ τ, XF (fun a => a = 67 ∨ a = 72) σ τ → (∀ j, j ≠ 9 → τ.i 67 j = σ.i 67 j) → RoS 72 (stW W c k W.2.2.2.length) τ → τ.i 67 9 = Int32.ofNat (stW W c k W.2.2.2.length).length → K (.inl (some (.int (Int32.ofNat (meS W ((stW W c k W.2.2.2.length).filter (akB W))))))) τ) : C_X10_gatherFitting_0 Z (d + 4) σ (Int32.ofNat c) K := by
  have kl : ∀ p, p < plW W.2.1 c → k p < W.1.length := fun p hp => (ka.2 p hp).2
  have ml := h.1.2.2.2.2.1.2.1
  have fl := ftL_len W c k
  refine T_X10_gatherFitting_0 h.1.1 (cl_listFor (oA := 72) h hc ka (h.1.1.s (a := 72) t0_72) (fun τ g hr => ?_))
  have pf : ∀ m, m ∈ ftL W c k → ∃ j x, m = j + 1 ∧ W.2.2.2[j]? = some x ∧ rlM W.2.2.2 m = x.1.2.1 ∧ lyM W.2.2.2 m = x.1.2.2.1 ∧ x.1.2.1 ≤ 3 ∧ (-1 ≤ x.1.2.2.1 ∧ x.1.2.2.1 < 100) := fun m hm => by
    obtain ⟨j, x, rfl, hx, -⟩ := ft_at h.1 kl hm
    obtain ⟨-, -, wf⟩ := h.1.at hx
    obtain ⟨k0, w1, w2, w3, w4, -⟩ := wf
    refine ⟨j, x, rfl, hx, ?_, ?_, w3, w4.1, ?_⟩
    · unfold rlM
      rw [Nat.add_sub_cancel, hx]
      rfl
    · unfold lyM
      rw [Nat.add_sub_cancel, hx]
      rfl
    · have := h.2.2.2.2.2
      omega
  have sg : ∀ l : Int, -1 ≤ l → l < 100 → (0 ≤ Int32.ofInt l ↔ 0 ≤ l) := fun l l1 l2 => by
    rw [Int32.le_iff_toInt_le, Int32.toInt_ofInt_of_le (by show -2147483648 ≤ l; omega) (by show l < 2147483648; omega)]
    exact Iff.rfl
  have lp : ∀ (r i : Nat) (υ : Sg) (D : List Nat), i + r = (ftL W c k).length → XF (fun a => a = 67 ∨ a = 72) σ υ → (∀ j, j ≠ 9 → υ.i 67 j = σ.i 67 j) → D = ((ftL W c k).take i).filter (fun m => decide (rlM W.2.2.2 m = 0) && decide (lyM W.2.2.2 m < 0)) → RoS 72 D υ → (∀ i' y, i ≤ i' → (ftL W c k)[i']? = some y → υ.i 72 i' = Int32.ofNat y) → υ.i 67 9 = Int32.ofNat D.length → (D.map (akL W k)).sum ≤ 9 * i → C_X10_gatherFitting_36 Z (d + 4) υ (Int32.ofNat (ftL W c k).length) (Int32.ofNat (D.map (akL W k)).sum) (Int32.ofNat i) K := by
    intro r
    induction r with
    | zero =>
      intro i υ D hi g g6 eD hD hL e9 hs
      rw [List.take_of_length_le (by omega), ← st_ft] at eD
      refine T_X10_gatherFitting_36 (g.fx h.1.1) ?_
      rw [oN_le (by omega) (by omega)]
      refine ⟨fun _ => ?_, fun z => absurd (by omega) z⟩
      have := kk υ g g6 (by rw [← eD]; exact hD) (by rw [← eD]; exact e9)
      rw [← me_sum h.1 kl _ (fun m hm => st_in hm), ← eD] at this
      exact this
    | succ r ih =>
      intro i υ D hi g g6 eD hD hL e9 hs
      have hq : QwS C W wy a0 υ := h.xf g (fun a q => by omega)
      have hi' := List.getElem?_eq_getElem (show i < (ftL W c k).length by omega)
      have ei := hL i _ (Nat.le_refl _) hi'
      have lm : (ftL W c k)[i] ∈ ftL W c k := List.getElem_mem _
      obtain ⟨j, x, ej, hx, er, el, r3, l1, l2⟩ := pf _ lm
      obtain ⟨hj, mt, -⟩ := hq.1.at hx
      have dl : D.length ≤ i := by
        rw [eD]
        have := List.length_filter_le (fun m => decide (rlM W.2.2.2 m = 0) && decide (lyM W.2.2.2 m < 0)) ((ftL W c k).take i)
        rw [List.length_take] at this
        omega
      have et : (ftL W c k).take (i + 1) = (ftL W c k).take i ++ [(ftL W c k)[i]] := by
        rw [List.take_succ, hi']
        rfl
      have c12 := mt.2.1
      have c13 := mt.2.2.1
      generalize hm : (ftL W c k)[i] = m at *
      subst ej
      refine T_X10_gatherFitting_36 hq.1.1 ?_
      rw [oN_le (by omega) (by omega), oN_t (by omega), ei, oN_t (by omega), c12, c13, e9, show Int32.ofNat x.1.2.1 = 0 ↔ x.1.2.1 = 0 from oN_eq (b := 0) (by omega) (by decide), sg _ l1 l2, oN_1 i, oN_1 D.length, oN_t (by omega)]
      refine ⟨fun z => absurd z (by omega), fun _ => ⟨ib_oN (by omega) (by decide), ib_oN (by omega) (by decide), fun z => ?_, fun z => ⟨ib_oN (by omega) (by decide), fun z2 => ?_, fun z2 => ⟨ib_oN (by omega) (by decide), ?_⟩⟩⟩⟩
      · refine ih (i + 1) υ D (by omega) g g6 ?_ hD (fun i' y h1 h2 => hL i' y (by omega) h2) e9 (by omega)
        rw [et, List.filter_append, ← eD, List.filter_cons_of_neg, List.filter_nil, List.append_nil]
        rw [er, decide_eq_false z]
        exact Bool.false_ne_true
      · refine ih (i + 1) υ D (by omega) g g6 ?_ hD (fun i' y h1 h2 => hL i' y (by omega) h2) e9 (by omega)
        rw [et, List.filter_append, ← eD, List.filter_cons_of_neg, List.filter_nil, List.append_nil]
        rw [el, decide_eq_false (show ¬ x.1.2.2.1 < 0 by omega), Bool.and_false]
        exact Bool.false_ne_true
      · have xw : XF (fun a => a = 67 ∨ a = 72) υ ((υ.wi 72 D.length (Int32.ofNat (j + 1))).wi 67 9 (Int32.ofNat (D.length + 1))) := ((XF.refl _ _).wi (by omega)).wi (by omega)
        have hq2 : QwS C W wy a0 ((υ.wi 72 D.length (Int32.ofNat (j + 1))).wi 67 9 (Int32.ofNat (D.length + 1))) := hq.xf xw (fun a q => by omega)
        refine cl_asked (k := k) hq2.1 hx ?_
        obtain ⟨s1, s2, -⟩ := spM_at hx
        have ak : akL W k (j + 1) = (asQ (blW W.1) k x.1.2.2.2.1 x.1.2.2.2.2.1).length := by
          unfold akL
          rw [s1, s2]
        have a9 := (akL_me h.1 kl lm).2.2
        have eD' : ((ftL W c k).take (i + 1)).filter (fun m => decide (rlM W.2.2.2 m = 0) && decide (lyM W.2.2.2 m < 0)) = D ++ [j + 1] := by
          rw [et, List.filter_append, ← eD, List.filter_cons_of_pos, List.filter_nil]
          rw [er, el, decide_eq_true z, decide_eq_true (show x.1.2.2.1 < 0 by omega)]
          rfl
        have es : ((D ++ [j + 1]).map (akL W k)).sum = (D.map (akL W k)).sum + akL W k (j + 1) := by
          rw [List.map_append, List.sum_append]
          simp
        show C_X10_gatherFitting_36 Z (d + 4) _ _ (Int32.ofNat (D.map (akL W k)).sum + Int32.ofNat (asQ (blW W.1) k x.1.2.2.2.1 x.1.2.2.2.2.1).length) (Int32.ofNat (i + 1)) K
        rw [oN_add, ← ak, ← es]
        refine ih (i + 1) _ (D ++ [j + 1]) (by omega) (g.tr xw) (fun q hq => ?_) eD'.symm (fun a y hy => ?_) (fun i' y h1 h2 => ?_) ?_ (by omega)
        · rw [wi_ne (by omega), wi_ne (by omega)]
          exact g6 q hq
        · rw [wi_ne (by omega)]
          by_cases q : a < D.length
          · rw [List.getElem?_append_left q] at hy
            rw [wi_ne (by omega)]
            exact hD a y hy
          · rw [List.getElem?_append_right (by omega)] at hy
            have jl := (List.getElem?_eq_some_iff.mp hy).1
            rw [List.length_singleton] at jl
            have je : a = D.length := by omega
            subst je
            rw [Nat.sub_self] at hy
            cases hy
            exact wi_at ..
        · rw [wi_ne (by omega), wi_ne (by omega)]
          exact hL i' y (by omega) h2
        · rw [wi_at, List.length_append, List.length_singleton]
  have xw : XF (fun a => a = 67 ∨ a = 72) τ (τ.wi 67 9 0) := (XF.refl _ _).wi (by omega)
  refine lp (ftL W c k).length 0 _ [] (by omega) ((g.mono (fun a q => Or.inr q)).tr xw) (fun j hj => ?_) rfl (fun i y q => by cases q) (fun i' y _ h2 => ?_) (wi_at ..) (Nat.zero_le _)
  · rw [wi_ne (by omega), (g.2.2 67 (by omega)).1]
  · rw [wi_ne (by omega)]
    exact hr i' y h2
end JUDGE

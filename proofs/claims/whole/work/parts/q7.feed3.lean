/-! THE CLASS: feed, whole -/
section FEEDD
variable {Z : zT} {d : Nat} {B : Nat × Nat × Nat × Nat × Nat} {C V V' : Nat × Nat × Nat × Nat} {a u u' A A' m m' ver a' : Nat} {W W' : Wld} {pg pg' : Ast} {t t' : Nat → Int32} {n n' wy ch ch' fuel fuel' rs : Nat} {rn rn' : Option (Rs × Es)} {res res' : List Nat} {q q' : Nat} {σ τ υ : Sg} {K : kS} {E : Nat → Prop} {S : Es} {e1 e2 : String}
theorem fd_fits {x : Int32} (h : by8 x) : fits .byte (.int x) = true := by
  show (decide ((-128 : Int32) ≤ x) && decide (x ≤ 127)) = true
  have h1 : (-128 : Int32) ≤ x := Int32.le_iff_toInt_le.mpr h.1
  have h2 : x ≤ (127 : Int32) := Int32.le_iff_toInt_le.mpr h.2
  rw [decide_eq_true h1, decide_eq_true h2]
  rfl
/-- another tape -/
theorem ClX.tp (h : ClX B C V a u A m ver W pg t n wy ch fuel rs rn res q σ) (hd : ∃ dyn, τ.sh = σ.sh ++ dyn) (hr : ∀ b k, b < σ.sh.length → ¬ (b = 0 ∧ k = 8) → τ.r b k = σ.r b k) (hi : ∀ b k, b < σ.sh.length → b ≠ A → ¬ (b = 0 ∧ k = 9) → τ.i b k = σ.i b k) (hl : ∀ b, b < σ.sh.length → τ.l b = σ.l b) (r8 : τ.r 0 8 = Rf.ptr A') (tm : TpM A' m' τ) (tx : TxC t' n' A' m' τ) (h9 : τ.i 0 9 = Int32.ofNat n') (hq : q ≤ q') (rm : RmH B C V (m' + sdN σ) q' τ.sh) : ClX B C V a u A' m' ver W pg t' n' wy ch fuel rs rn res q' τ := by
  have F := h.fx
  have hl0 := F.len
  obtain ⟨k1, ⟨w1, w2⟩, ⟨⟨S0, k3⟩, k4, k5⟩, ⟨ne, wh⟩, ⟨v1, v2⟩, dj, ⟨-, -, tx0, -⟩, ⟨c1, c2, c3, c4⟩, ⟨h40, r1, r2⟩, ub, -⟩ := id h
  have hA := tx0.2.2.2.2
  have er : ∀ b, b < σ.sh.length → b ≠ A → b ≠ 0 → τ.i b = σ.i b := fun b hb z1 z2 => funext fun k => hi b k hb z1 (by omega)
  have F' : FX ΦC τ.sh τ.r := by
    obtain ⟨⟨d0, e0⟩, f2⟩ := F
    obtain ⟨dyn, e⟩ := hd
    refine ⟨⟨d0 ++ dyn, by rw [e, e0, List.append_assoc]⟩, fun b k hc => ?_⟩
    have hb : b < σ.sh.length := by
      rw [e0, List.length_append]
      have : b < ΦC.sh0.length := by
        refine Nat.lt_of_not_le (fun z => ?_)
        have : ΦC.cst b k = false := by
          show cstC b k = false
          unfold cstC
          rw [List.getElem?_eq_none (show sh0C.length ≤ b from z)]
        rw [this] at hc
        cases hc
      omega
    rw [hr b k hb (fun z => by rw [z.1, z.2] at hc; exact absurd hc (by decide))]
    exact f2 b k hc
  have sh : ∀ {b : Nat} {s : Sh}, σ.sh[b]? = some s → τ.sh[b]? = some s := fun z => by
    obtain ⟨dyn, e⟩ := hd
    rw [e, List.getElem?_append_left (List.getElem?_eq_some_iff.mp z).1]
    exact z
  have lt : ∀ {b : Nat} {s : Sh}, σ.sh[b]? = some s → b < σ.sh.length := fun z => (List.getElem?_eq_some_iff.mp z).1
  have ty : ∀ {b : Nat} {k x : Nat}, σ.sh[b]? = some (Sh.arr k x) → k ≠ 2 → b ≠ A := fun z z' y => by
    rw [y, tx0.1] at z
    cases z
    exact z' rfl
  obtain ⟨⟨x1, x1'⟩, ⟨x2, x2'⟩, ⟨x3, x3'⟩, ⟨x4, x4'⟩, x5⟩ := k1.1.2.1
  obtain ⟨⟨y1, y1'⟩, ⟨y2, y2'⟩, ⟨y3, y3'⟩, y4⟩ := k1.1.2.2.1
  have y4' := y4
  obtain ⟨-, p0, p1, p2, -⟩ := y4'
  have r41 : ∀ k, τ.r 41 k = σ.r 41 k := fun k => hr 41 k (by omega) (by omega)
  have r24 : ∀ k, τ.r 24 k = σ.r 24 k := fun k => hr 24 k (by omega) (by omega)
  have sa : SgA τ B.1 B.2.1 B.2.2.1 B.2.2.2.1 B.2.2.2.2 := ⟨⟨(r41 0).trans x1, sh x1'⟩, ⟨(r41 1).trans x2, sh x2'⟩, ⟨(r41 2).trans x3, sh x3'⟩, ⟨(r41 3).trans x4, sh x4'⟩, x5⟩
  have ca : CoA τ C.1 C.2.1 C.2.2.1 C.2.2.2 := ⟨⟨(r24 0).trans y1, sh y1'⟩, ⟨(r24 1).trans y2, sh y2'⟩, ⟨(r24 2).trans y3, sh y3'⟩, y4⟩
  have cA : C.2.1 ≠ A ∧ C.2.2.1 ≠ A ∧ C.2.2.2 ≠ A := ⟨ty y1' (by decide), ty y2' (by decide), ty y3' (by decide)⟩
  have cs : τ.i C.2.1 = σ.i C.2.1 ∧ τ.i C.2.2.1 = σ.i C.2.2.1 ∧ τ.i C.2.2.2 = σ.i C.2.2.2 := ⟨er _ (lt y1') cA.1 (by omega), er _ (lt y2') cA.2.1 (by omega), er _ (lt y3') cA.2.2 (by omega)⟩
  obtain ⟨xx, hx3, ex3⟩ := k1.2.2.2.2.2.2.2
  have cap := k1.2.2.2.1.2.2.2.1
  have k1' : CRs B C W a τ := k1.mv F' sa ca k1.1.2.2.2.1 k1.2.2.2.2.2.2.1.1 ⟨cap.2.1, cap.2.2⟩ (fun x j z => by unfold wlI at z; rw [er x (by omega) (by omega) (by omega)]) (fun x j z => by rw [hl x (by omega)]) (fun j _ _ => by rw [cs.1, cs.2.1, cs.2.2]; exact ⟨rfl, rfl, rfl⟩) ⟨xx, hx3, by rw [er 28 (by omega) (by omega) (by omega)]; exact ex3⟩
  obtain ⟨⟨⟨s1, s1'⟩, ⟨s2, s2'⟩, ⟨s3, s3'⟩, s4⟩, t2, t3, t4, t5, t6⟩ := k3
  have s4' := s4
  obtain ⟨-, g0, g1, g2, -⟩ := s4'
  have r56 : ∀ k, τ.r 56 k = σ.r 56 k := fun k => hr 56 k (by omega) (by omega)
  have e56 := er 56 (by omega) (by omega) (by omega)
  have eV := er V.2.2.2 (lt s3') (ty s3' (by decide)) (by omega)
  have k3' : SetC τ V u S0 := by
    unfold SetC
    rw [e56, eV, hl V.2.1 (lt s1'), hl V.2.2.1 (lt s2')]
    exact ⟨⟨⟨(r56 8).trans s1, sh s1'⟩, ⟨(r56 9).trans s2, sh s2'⟩, ⟨(r56 10).trans s3, sh s3'⟩, s4⟩, t2, t3, t4, t5, t6⟩
  have r46 : τ.r 46 3 = σ.r 46 3 := hr 46 3 (by omega) (by omega)
  have esq : sqA τ = sqA σ := sqA_g r46
  have nA : 101 ≠ A := ty (F.s t0_101) (by decide)
  obtain ⟨eN, ngN, -⟩ := ne.2
  have sqs : σ.sh[sqA σ]? = some (Sh.arr 0 (2 ^ eN * 2 ^ eN)) := ngN.2.2.2.1
  have sq := ne.sq
  have eQ : τ.i (sqA σ) = σ.i (sqA σ) := er _ (lt sqs) (ty sqs (by decide)) (by omega)
  have dn' : DjN B C A' τ := by
    refine ⟨by rw [esq]; exact dj.2.1, by rw [esq]; exact dj.2.2.1, fun z => ?_⟩
    have y := tx.1
    rw [z, esq, sh sqs] at y
    cases y
  have cv' : CvN C V τ := by
    obtain ⟨dyn, ed⟩ := hd
    refine ⟨fun b hb => ?_, by rw [ed, List.length_append]; omega, by rw [esq, ed, List.length_append]; have := lt sqs; omega, by rw [esq]; exact k4.2.2.2⟩
    obtain ⟨b1, b2⟩ := k4.1 b hb
    exact ⟨by rw [ed, List.length_append]; omega, b2⟩
  have e1 := er 1 (by omega) (by omega) (by omega)
  have e57 := er 57 (by omega) (by omega) (by omega)
  have i0 : ∀ k, k ≠ 9 → τ.i 0 k = σ.i 0 k := fun k z => hi 0 k (by omega) (by omega) (by omega)
  refine ⟨k1', ⟨by rw [e1]; exact w1, w2⟩, ⟨⟨S0, k3'⟩, cv', k5.keep e57 (by rw [e1]) (er 62 (by omega) (by omega) (by omega)) (er 63 (by omega) (by omega) (by omega)) (hl 58 (by omega)) (hl 59 (by omega)) (hl 60 (by omega)) (hl 61 (by omega))⟩, ⟨⟨fun i j hi' hj' => by rw [show τ.l (48 + 7) = σ.l 55 from hl 55 (by omega)]; exact ne.1 i j hi' hj', ne.2.keep r46 (by rw [er 46 (by omega) (by omega) (by omega)]) (fun s z => sh z) eQ⟩, ?_, wh.2.row (fun x z => ⟨er x (by omega) (by omega) (by omega), hl x (by omega)⟩)⟩, ⟨by rw [e1]; exact v1, by omega⟩, ⟨dj.1, dn'⟩, ⟨r8, tm, tx, h9⟩, ⟨⟨(i0 11 (by decide)).trans c1.1, c1.2⟩, ⟨(i0 12 (by decide)).trans c2.1, c2.2⟩, (i0 13 (by decide)).trans c3, fun z => ⟨(c4 z).1, fun j q hq => ?_⟩⟩, ⟨by rw [er 40 (by omega) (by omega) (by omega)]; exact h40, r1.keep (er 83 (by omega) (by omega) (by omega)) (hl 83 (by omega)) (by rw [er 84 (by omega) (by omega) (by omega)]) (er 96 (by omega) (by omega) (by omega)) (er 97 (by omega) (by omega) (by omega)), ?_⟩, ?_, by rw [sdN_g (er 46 (by omega) (by omega) (by omega))]; exact rm⟩
  · unfold WhS Rw0
    rw [hl (75 + 7) (by omega), er 68 (by omega) (by omega) (by omega), er 69 (by omega) (by omega) (by omega), er 70 (by omega) (by omega) (by omega), e1]
    exact wh.1
  · rw [cs.1, cs.2.1, cs.2.2]
    exact (c4 z).2 j q hq
  · unfold ResC
    rw [i0 10 (by decide), er 98 (by omega) (by omega) (by omega)]
    exact r2
  · have := upN_cg (σ := σ) (τ := τ) e57 (by rw [e1])
    omega
theorem cc_feed {x1 x2 x3 x4 x5 : Int32} (h8 : 10 ≤ d) (h : ClA W pg t n wy ch fuel rs rn res q σ) (hK : CAns K (ClA W pg (feT t n x1 x2 x3 x4 x5) (feN n) wy ch fuel rs rn res (q + 1)) xIo xIo (feA n)) : C_X12_feed_0 Z (d + 1) σ x1 x2 x3 x4 x5 K := by
  have h0 := h
  obtain ⟨d, rfl⟩ : ∃ e, d = e + 1 := ⟨d - 1, by omega⟩
  obtain ⟨B, C, V, a, u, A, m, ver, h⟩ := h
  have F := h.fx
  have hl0 := F.len
  obtain ⟨-, -, -, -, -, -, ⟨r8, ⟨⟨e, he, em⟩, tb⟩, tx, h9⟩, -, -, -, rm⟩ := id h
  have hA := tx.2.2.2.2
  have n8 := tx.2.1
  have lA := (List.getElem?_eq_some_iff.mp tx.1).1
  unfold feA at hK
  have e20 : σ.i 0 9 + 20 = Int32.ofNat (n + 20) := by
    rw [h9, show (20 : Int32) = Int32.ofNat 20 from rfl, oN_add]
  refine T_X12_feed_0 F (by omega) ?_
  rw [e20, show Int32.ofNat (n + 20) ≤ 8192 ↔ n + 20 ≤ 8192 from oN_le (b := 8192) (by omega) (by decide)]
  refine ⟨fun z => ?_, fun z => ?_⟩
  · rw [if_pos z] at hK
    have eN : feN n = n + 20 := if_pos z
    rw [eN] at hK
    have ft : ∀ i, i < 5 → ∀ j, j < 4 → feT t n x1 x2 x3 x4 x5 (n + 4 * i + j) = fdB ([x1, x2, x3, x4, x5].getD i 0) j := fun i hi j hj => by
      unfold feT
      rw [if_pos ⟨z, by omega, by omega⟩, show (n + 4 * i + j - n) / 4 = i by omega, show (n + 4 * i + j - n) % 4 = j by omega]
    have fold : ∀ k, k < n → feT t n x1 x2 x3 x4 x5 k = t k := fun k hk => if_neg (by omega)
    have fb : ∀ k, by8 (feT t n x1 x2 x3 x4 x5 k) := fun k => by
      unfold feT
      split
      · exact (byB_b _).1
      · exact tx.2.2.2.1 k
    refine ⟨A, r8, m, tx.1, fun y => ?_, fun y => ⟨A, r8, A, r8, m, tx.1, ?_⟩⟩
    · rw [oN_le (by omega) (by omega)] at y
      refine cl_put20 (by omega) r8 tx.1 n8.2.2 y ft F h9 (fun τ g => ?_)
      refine hK τ ⟨B, C, V, a, u, A, m, ver, h.tp ⟨[], by rw [g.1, List.append_nil]⟩ (fun b k _ _ => by rw [g.2.2.1]) (fun b k _ z1 z2 => g.2.2.2.1 b k (by omega) z2) (fun b _ => by rw [g.2.1]) (by rw [g.2.2.1]; exact r8) ⟨⟨e, he, em⟩, fun k hk => ?_⟩ ⟨by rw [g.1]; exact tx.1, ⟨y, by omega, n8.2.2⟩, fun k hk => ?_, fb, hA⟩ g.2.2.2.2.2 (Nat.le_succ _) (by rw [g.1]; exact rm.up)⟩
      · by_cases w : n ≤ k ∧ k < n + 20
        · rw [g.2.2.2.2.1 k w.1 w.2]
          exact fb k
        · rw [g.2.2.2.1 A k (by omega) (by omega)]
          exact tb k hk
      · by_cases w : n ≤ k
        · exact g.2.2.2.2.1 k w hk
        · rw [g.2.2.2.1 A k (by omega) (by omega), fold k (by omega)]
          exact tx.2.2.1 k (by omega)
    · rw [oN_le (by omega) (by omega)] at y
      have e4 : e ≤ 4 := by
        refine Nat.lt_succ_iff.mp (Nat.lt_of_le_of_ne he (fun w => ?_))
        rw [w] at em
        have : m = 8192 := em
        omega
      have m4 : m ≤ 4096 := by
        rw [em]
        exact Nat.le_trans (Nat.mul_le_mul_left 256 (Nat.pow_le_pow_right (by decide) e4)) (by decide)
      have m2 : 256 ≤ m := by
        rw [em]
        have := Nat.one_le_two_pow (n := e)
        omega
      have e2m : (2 : Int32) * Int32.ofNat m = Int32.ofNat (2 * m) := oN_2 m
      have emin : (if (2 : Int32) * Int32.ofNat m < (8192 : Int32) then (2 : Int32) * Int32.ofNat m else (8192 : Int32)) = Int32.ofNat (2 * m) := by
        have eq : Int32.ofNat (2 * m) < 8192 ↔ 2 * m < 8192 := oN_lt (b := 8192) (by omega) (by decide)
        rw [e2m]
        by_cases w : 2 * m < 8192
        · rw [if_pos (eq.mpr w)]
        · rw [if_neg (fun y => w (eq.mp y)), show 2 * m = 8192 by omega]
          rfl
      rw [emin]
      refine T_J7_copyOf_9075b_0 F ⟨m, tx.1, fun _ => ⟨?_, ?_⟩, fun w => ?_⟩
      · rw [oN_t (by omega)]
        intro w
        rcases w with w | w
        · rw [show Int32.ofNat (2 * m) < 0 ↔ 2 * m < 0 from oN_lt (b := 0) (by omega) (by decide)] at w
          omega
        · omega
      · have eif : (if Int32.ofNat (2 * m) < Int32.ofNat m then Int32.ofNat (2 * m) else Int32.ofNat m) = Int32.ofNat m := if_neg (fun w => by
          rw [oN_lt (by omega) (by omega)] at w
          omega)
        rw [eif, oN_t (by omega), oN_t (by omega)]
        refine ⟨⟨?_, by decide, by decide, ?_, ?_⟩, fun i hi => ?_, ?_⟩
        · rw [show Int32.ofNat m < 0 ↔ m < 0 from oN_lt (b := 0) (by omega) (by decide)]
          omega
        · rw [oN_t (by omega)]
          show 0 + m ≤ m
          omega
        · rw [oN_t (by omega)]
          show 0 + m ≤ 2 * m
          omega
        · show fits .byte (.int ((σ.al (Sh.arr 2 (2 * m))).i A (0 + i))) = true
          rw [Nat.zero_add, show (σ.al (Sh.arr 2 (2 * m))).i A i = σ.i A i from if_neg (by omega)]
          exact fd_fits (tb i hi)
        · obtain ⟨σ1, hσ1⟩ : ∃ y, y = (((σ.al (Sh.arr 2 (2 * m))).cpI A ((0 : Int32).toNatClampNeg) σ.sh.length ((0 : Int32).toNatClampNeg) m).wr 0 8 (Rf.ptr σ.sh.length)) := ⟨_, rfl⟩
          show C_X12_feed_60 Z (d + 1 + 1) (((σ.al (Sh.arr 2 (2 * m))).cpI A ((0 : Int32).toNatClampNeg) σ.sh.length ((0 : Int32).toNatClampNeg) m).wr 0 8 (Rf.ptr σ.sh.length)) x1 x2 x3 x4 x5 K
          rw [← hσ1]
          have hs : σ1.sh = σ.sh ++ [Sh.arr 2 (2 * m)] := by rw [hσ1]; rfl
          have i1 : ∀ b k, b < σ.sh.length → σ1.i b k = σ.i b k := fun b k hb => by
            rw [hσ1]
            show (if b = σ.sh.length ∧ 0 ≤ k ∧ k < 0 + m then (σ.al (Sh.arr 2 (2 * m))).i A (0 + (k - 0)) else (σ.al (Sh.arr 2 (2 * m))).i b k) = _
            rw [if_neg (by omega)]
            exact if_neg (by omega)
          have iN : ∀ k, k < m → σ1.i σ.sh.length k = σ.i A k := fun k hk => by
            rw [hσ1]
            show (if σ.sh.length = σ.sh.length ∧ 0 ≤ k ∧ k < 0 + m then (σ.al (Sh.arr 2 (2 * m))).i A (0 + (k - 0)) else (σ.al (Sh.arr 2 (2 * m))).i σ.sh.length k) = _
            rw [if_pos (by omega), Nat.zero_add, Nat.sub_zero]
            exact if_neg (by omega)
          have iO : ∀ k, m ≤ k → σ1.i σ.sh.length k = 0 := fun k hk => by
            rw [hσ1]
            show (if σ.sh.length = σ.sh.length ∧ 0 ≤ k ∧ k < 0 + m then (σ.al (Sh.arr 2 (2 * m))).i A (0 + (k - 0)) else (σ.al (Sh.arr 2 (2 * m))).i σ.sh.length k) = _
            rw [if_neg (by omega)]
            exact if_pos rfl
          have l1 : ∀ b, b < σ.sh.length → σ1.l b = σ.l b := fun b hb => by
            rw [hσ1]
            exact funext fun k => if_neg (by omega)
          have rr : ∀ b k, b < σ.sh.length → ¬ (b = 0 ∧ k = 8) → σ1.r b k = σ.r b k := fun b k hb z => by
            rw [hσ1, wr_r, if_neg z]
            exact if_neg (by omega)
          have r81 : σ1.r 0 8 = Rf.ptr σ.sh.length := by
            rw [hσ1, wr_r, if_pos ⟨rfl, rfl⟩]
          have sN : σ1.sh[σ.sh.length]? = some (Sh.arr 2 (2 * m)) := by
            rw [hs, List.getElem?_append_right (Nat.le_refl _), Nat.sub_self]
            rfl
          have b0 : by8 0 := ⟨by decide, by decide⟩
          have t1 : TpM σ.sh.length (2 * m) σ1 := ⟨⟨e + 1, by omega, by rw [em, Nat.pow_succ]; omega⟩, fun k hk => by
            by_cases w : k < m
            · rw [iN k w]
              exact tb k w
            · rw [iO k (by omega)]
              exact b0⟩
          have h1 : ClX B C V a u σ.sh.length (2 * m) ver W pg t n wy ch fuel rs rn res (q + 1) σ1 := h.tp ⟨_, hs⟩ rr (fun b k hb _ _ => i1 b k hb) l1 r81 t1 ⟨sN, ⟨by omega, n8.2.1, by omega⟩, fun k hk => by rw [iN k (by omega)]; exact tx.2.2.1 k hk, tx.2.2.2.1, by omega⟩ (by rw [i1 0 9 (by omega)]; exact h9) (Nat.le_succ _) (by
            obtain ⟨m1, m2'⟩ := rm
            refine ⟨?_, ?_⟩
            · rw [hs, szS_app, show szS [Sh.arr 2 (2 * m)] = 2 * m from rfl]
              omega
            · rw [hs, List.length_append, List.length_singleton]
              omega)
          have F1 := h1.fx
          refine cl_put20 (A := σ.sh.length) (m := 2 * m) (by omega) r81 sN (by omega) (by omega) ft F1 (by rw [i1 0 9 (by omega)]; exact h9) (fun τ g => ?_)
          refine hK τ ⟨B, C, V, a, u, σ.sh.length, 2 * m, ver, h1.tp ⟨[], by rw [g.1, List.append_nil]⟩ (fun b k _ _ => by rw [g.2.2.1]) (fun b k _ z1 z2 => g.2.2.2.1 b k (by omega) z2) (fun b _ => by rw [g.2.1]) (by rw [g.2.2.1]; exact r81) ⟨t1.1, fun k hk => ?_⟩ ⟨by rw [g.1]; exact sN, ⟨by omega, by omega, by omega⟩, fun k hk => ?_, fb, by omega⟩ g.2.2.2.2.2 (Nat.le_refl _) (by rw [g.1]; exact h1.2.2.2.2.2.2.2.2.2.2)⟩
          · by_cases w : n ≤ k ∧ k < n + 20
            · rw [g.2.2.2.2.1 k w.1 w.2]
              exact fb k
            · rw [g.2.2.2.1 σ.sh.length k (by omega) (by omega)]
              exact t1.2 k hk
          · by_cases w : n ≤ k
            · exact g.2.2.2.2.1 k w hk
            · rw [g.2.2.2.1 σ.sh.length k (by omega) (by omega), fold k (by omega), iN k (by omega)]
              exact tx.2.2.1 k (by omega)
      · rw [oN_eq (by omega) (by omega)] at w
        omega
  · rw [if_neg z] at hK
    have eN : feN n = n := if_neg z
    have eT : feT t n x1 x2 x3 x4 x5 = t := funext fun k => if_neg (by omega)
    rw [eN, eT] at hK
    exact cc_1 h0 hK
end FEEDD

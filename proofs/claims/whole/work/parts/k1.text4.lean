/-! THE CLASS: tell -/
section TX6
variable {Z : zT} {d : Nat} {t : Nat → Int32} {n N A m : Nat} {B B' : Nat × Nat × Nat × Nat × Nat} {C C' : Nat × Nat × Nat × Nat} {W : Wld} {σ τ υ : Sg} {K : kS} {a : Nat}
theorem CRs.w40 {j : Nat} {v : Int32} (h : CRs B C W a σ) : CRs B C W a (σ.wi 40 j v) := h.mv (B' := B) (C' := C) h.1.1 h.1.2.1 h.1.2.2.1 h.1.2.2.2.1 h.2.2.2.2.2.2.1.1 h.2.2.2.1.2.2.2.1.2 (fun b j q => wi_ne (by unfold wlI at q; omega)) (fun _ _ _ => rfl) (fun j _ _ => by
  obtain ⟨-, -, -, -, y0, y1, y2, -⟩ := h.1.2.2.1
  exact ⟨wi_ne (by omega), wi_ne (by omega), wi_ne (by omega)⟩) (by
  obtain ⟨x, hx, ex⟩ := h.2.2.2.2.2.2.2
  exact ⟨x, hx, (wi_ne (by omega)).trans ex⟩)
/-- what a text's reading comes to, beside the world -/
def TeR (t : Nat → Int32) (n : Nat) (W : Wld) (B : Nat × Nat × Nat × Nat × Nat) (C : Nat × Nat × Nat × Nat) (σ τ : Sg) : Prop := ∃ B' C' a', CRs B' C' (tlR t n W).2.2 a' τ ∧ TeF B B' C C' σ τ ∧ CdK C C' σ τ ∧ ((τ.i 1 16 = σ.i 1 16 ∧ (tlR t n W).2.2 = W) ∨ τ.i 1 16 = σ.i 1 16 + 1) ∧ τ.i 40 2 = Int32.ofNat (tlR t n W).2.1
theorem cl_text (hZ : ZK Z) (hd : 215 ≤ d) (R : CRs B C W a σ) (T : TxC t n A m σ) (k : ∀ τ, TeR t n W B C σ τ → K (.inl (some (.int (Int32.ofInt (tlR t n W).1)))) τ) : C_X7_readText_0 Z (d + 1) σ A (Int32.ofNat n) K := by
  obtain ⟨e, rfl⟩ : ∃ e, d = e + 3 := ⟨d - 3, by omega⟩
  have nn : n ≤ 8192 := T.2.1.2.1
  refine T_X7_readText_0 R.1.1 (cl_cut hZ (by omega) R.1.1 T R.1.2.1 (fun τ1 N B1 cr ss hN => ?_))
  have R1 := R.cut cr
  refine cl_begin R1.1.1 (fun τ2 s2 l2 r2 i2 x3 x4 x5 x6 => ?_)
  have F2 : FX ΦC τ2.sh τ2.r := by rw [s2, r2]; exact R1.1.1
  refine cl_keepW F2 (fun τ3 s3 l3 r3 i3 y0 y3 y4 => ?_)
  have gs : τ3.sh = τ1.sh := s3.trans s2
  have gl : τ3.l = τ1.l := l3.trans l2
  have gr : τ3.r = τ1.r := r3.trans r2
  have gi : ∀ b j, ¬ (b = 40 ∧ 3 ≤ j ∧ j ≤ 6) → b ≠ 39 → τ3.i b j = τ1.i b j := fun b j q1 q2 => (i3 b j q2).trans (i2 b j q1)
  have F3 : FX ΦC τ3.sh τ3.r := by rw [gs, gr]; exact R1.1.1
  have sa1 := R1.1.2.1
  have ca1 := R1.1.2.2.1
  have hb1 := R1.2.2.2.2.2.2.1
  obtain ⟨m1, m2, m3, m4, mm⟩ := R1.2.2.2.1
  have R3 : CRs B1 C W a τ3 := by
    refine R1.mv F3 (by unfold SgA; rw [gs, gr]; exact sa1) (by unfold CoA; rw [gs, gr]; exact ca1) R1.1.2.2.2.1 hb1.1 m4.2 (fun b j q => gi b j (by unfold wlI at q; omega) (by unfold wlI at q; omega)) (fun b j _ => by rw [gl]) (fun j _ _ => ?_) (by obtain ⟨x, hx, ex⟩ := R1.2.2.2.2.2.2.2; exact ⟨x, hx, (gi 28 3 (by omega) (by omega)).trans ex⟩)
    obtain ⟨-, -, -, -, y0, y1, y2, -⟩ := ca1
    exact ⟨gi _ j (by omega) (by omega), gi _ j (by omega) (by omega), gi _ j (by omega) (by omega)⟩
  have ss3 : SgS t n N τ3 B1.2.1 B1.2.2.1 B1.2.2.2.1 B1.2.2.2.2 := by
    obtain ⟨-, -, -, -, -, e0, e1, e2, e3, -⟩ := sa1
    exact ss.keep (gi 41 4 (by omega) (by omega)) (funext fun j => gi _ j (by omega) (by omega)) (funext fun j => gi _ j (by omega) (by omega)) (by rw [gl]) (by rw [gl])
  have hB3 := R3.1.hb ss3 ⟨nn, hN⟩
  obtain ⟨-, r31, r32, r33, r34, r35, -, x, hx, ex⟩ := R3
  have S3 : CWS t n N B1 C W a τ3 := ⟨hB3, r31, r32, r33, r34⟩
  have b3 : BdS t n N (List.replicate x []) (.inr (fiS t n, [])) τ3 := by
    refine ⟨⟨⟨0, Nat.zero_le _, (i3 40 3 (by omega)).trans x3, rfl⟩, (i3 40 4 (by omega)).trans x4⟩, ⟨by rw [List.length_replicate]; exact ex, by rw [List.length_replicate]; exact hx, fun j nm hj hn => ?_⟩, ⟨(i3 40 5 (by omega)).trans x5, (i3 40 6 (by omega)).trans x6⟩, fun e he => by cases he⟩
    exact absurd (List.eq_of_mem_replicate (List.mem_of_getElem? hj)) hn
  have l100 : 101 < σ.sh.length := (List.getElem?_eq_some_iff.mp (R.1.1.s (a := 101) t0_101)).1
  have l13 : σ.sh.length ≤ τ3.sh.length := by
    rw [gs]
    obtain ⟨dyn, q⟩ := (cr.te R.2.2.2.2.2.2.1.1 C).1
    rw [q, List.length_append]
    exact Nat.le_add_right ..
  have te3 : TeF B B1 C C σ τ3 := (cr.te R.2.2.2.2.2.2.1.1 C).tr (TeF.sm gs gr (fun b j q => gi b j (by omega) (by omega)) (fun b j _ => by rw [gl]))
  -- what holds at the end, also
  have ve3 : τ3.i 1 16 = σ.i 1 16 := (gi 1 16 (by omega) (by omega)).trans (cr.2.2.1 1 16 (by omega) (by omega) (by have := R.1.2.1.2.2.2.2.2.1; omega) (by have := R.1.2.1.2.2.2.2.2.2.1; omega))
  have cd3 : CdK C C σ τ3 := fun y l j q => by
    obtain ⟨⟨z1, z2⟩, ⟨z3, z4⟩, ⟨z5, z6⟩, -, y0, y1, y2, -⟩ := R.1.2.2.1
    obtain ⟨q1, q2, q3, q4, q5, q6⟩ := R.1.2.2.2.1
    exact ⟨(gi _ j (by omega) (by omega)).trans (cr.2.2.1 _ j (List.getElem?_eq_some_iff.mp z2).1 (by omega) (Ne.symm q1) (Ne.symm q4)), (gi _ j (by omega) (by omega)).trans (cr.2.2.1 _ j (List.getElem?_eq_some_iff.mp z4).1 (by omega) (Ne.symm q2) (Ne.symm q5)), (gi _ j (by omega) (by omega)).trans (cr.2.2.1 _ j (List.getElem?_eq_some_iff.mp z6).1 (by omega) (Ne.symm q3) (Ne.symm q6))⟩
  have d33 : DcF C C τ3 τ3 := DcF.refl _ _
  have cdA : ∀ {τ C'}, TxF W.2.2.2.length C C' τ3 τ → CdK C C' σ τ := fun g y l j q => by
    obtain ⟨q1, q2, q3⟩ := cd3 y l j q
    obtain ⟨p1, p2, p3⟩ := g.2.2.2.2 y (by omega) j q
    exact ⟨p1.trans q1, p2.trans q2, p3.trans q3⟩
  have g1 : ∀ {τ C'}, TxF W.2.2.2.length C C' τ3 τ → ∀ j, τ.i 1 j = τ3.i 1 j := fun g j => by rw [g.1.2.2.1 1 (by omega) (by unfold rtI; omega) (by obtain ⟨-, -, -, -, y0, y1, y2, -⟩ := R.1.2.2.1; omega) (by obtain ⟨-, -, -, -, y0, y1, y2, -⟩ := R.1.2.2.1; omega) (by obtain ⟨-, -, -, -, y0, y1, y2, -⟩ := R.1.2.2.1; omega)]
  -- back
  have back : ∀ τ C' a' W' vs' R', CWS t n N B1 C' W' a' τ → PfW W W' → TxF W.2.2.2.length C C' τ3 τ → BdS t n N vs' R' τ → (tlR t n W).2.2 = W → vdP R' = Int32.ofInt (tlR t n W).1 → vdR R' = Int32.ofNat (tlR t n W).2.1 → C_X11_goBack_0 Z (e + 3) τ (yN K fun τ4 => C_X7_verdict_0 Z (e + 3) τ4 (yI K fun v8 τ6 => K (.inl (some (.int v8))) τ6)) := by
    intro τ C' a' W' vs' R' S' pf g b w1 w2 w3
    obtain ⟨dyn, shd⟩ := g.1.1
    have le : τ3.sh.length ≤ τ.sh.length := by
      rw [shd, List.length_append]
      exact Nat.le_add_right ..
    have cc : C.1 ≤ C'.1 := by
      have := g.2.1.1
      rw [shd, szS_app] at this
      omega
    obtain ⟨-, -, -, -, y0', y1', y2', -⟩ := S'.1.2.2.2.2.1
    refine cl_back (A0 := a) S' pf r34 ?_ ?_ ?_ ?_ ?_ ⟨m4.1, by omega⟩ (fun j x hj => ?_) b (fun υ S4 b4 s4 l4 r4 i4 => ?_)
    · rw [g.2.2.1 39 0 (by omega) (by omega), y0 0 (by omega), i2 28 0 (by omega)]
      exact R1.1.2.2.2.2.1.1
    · rw [g.2.2.1 39 1 (by omega) (by omega), y0 1 (by omega), i2 28 1 (by omega)]
      exact R1.1.2.2.2.2.2.1.1
    · rw [g.2.2.1 39 2 (by omega) (by omega), y0 2 (by omega), i2 28 2 (by omega)]
      exact R1.1.2.2.2.2.2.2.1
    · rw [g.2.2.1 39 3 (by omega) (by omega), y3, i2 10 0 (by omega)]
      exact m1
    · rw [g.2.2.1 39 4 (by omega) (by omega), y4, i2 24 3 (by omega)]
      exact m3
    · obtain ⟨-, -, -, -, -, S, s1, s2, s3, -⟩ := r33.2.2.2.2 j x hj
      have := (List.getElem?_eq_some_iff.mp hj).1
      exact ⟨S, (g.2.2.2.1 (j + 1) (by omega)).trans s1, s2, s3⟩
    · have F4 : FX ΦC υ.sh υ.r := S4.1.1
      obtain ⟨x4, hx4, ex4⟩ := b4.nv
      have st4 : StS W υ := r35.keep ((i4 1 14 (by omega) (by omega) (by omega)).trans (g1 g 14)) (fun j => (i4 38 j (by omega) (by omega) (by omega)).trans (g.2.2.1 38 j (by omega) (by omega))) (fun b j q1 q2 => by rw [l4, g.1.2.2.2.1 b (by omega) (by omega) (by omega) (by omega) (by omega) (by omega)])
      have C4 : CRs B1 C' W a υ := S4.cb hb1.1 hb1.2 hx4 ex4 st4
      refine cl_verdict F4 nn b4 ?_
      show K (.inl (some (.int (vdP R')))) (υ.wi 40 2 (vdR R'))
      rw [w2, w3]
      refine k _ ⟨B1, C', a, by rw [w1]; exact C4.w40, (te3.tr (g.te B1)).tr (TeF.sm s4 r4 (fun b j q => (wi_ne (by omega)).trans (i4 b j (by omega) (by omega) (by omega))) (fun b j _ => by show υ.l b j = τ.l b j; rw [l4])), fun y l j q => ?_, Or.inl ⟨?_, w1⟩, wi_eq⟩
      · obtain ⟨q1, q2, q3⟩ := cdA g y l j q
        exact ⟨(wi_ne (by omega)).trans ((i4 _ j (by omega) (by omega) (by omega)).trans q1), (wi_ne (by omega)).trans ((i4 _ j (by omega) (by omega) (by omega)).trans q2), (wi_ne (by omega)).trans ((i4 _ j (by omega) (by omega) (by omega)).trans q3)⟩
      · exact (wi_ne (by omega)).trans ((i4 1 16 (by omega) (by omega) (by omega)).trans ((g1 g 16).trans ve3))
  refine T_X7_readText_22 F3 ?_
  rw [ss3.1, show τ3.i 40 4 = -1 from b3.1.2]
  refine ⟨fun z => absurd z ?_, fun _ => ⟨fun z => absurd z (by decide), fun _ => ⟨fun _ => ?_, fun z => absurd rfl z⟩⟩⟩
  · have hNn := ss3.2.2.2
    rw [show (0 : Int32) = Int32.ofNat 0 from rfl, oN_le (by omega) (by decide)]
    omega
  refine tx_all (d := e + 3) (W0 := W) (C0 := C) (σ0 := τ3) (p0 := fiS t n) (A0 := a) (by omega) (by have := R.2.2.2.1.2.1; have := R.2.2.2.2.2.2.1.2; omega) (n + 1 - fiS t n) (fiS t n) W W C a (List.replicate x []) [] τ3 0 0 (Nat.le_refl _) S3 (PfW.refl _) (TxF.refl _ _ _) b3 ((i3 40 3 (by omega)).trans x3) (Nat.zero_le _) rfl (Nat.le_refl _) (Nat.le_refl _) (Nat.le_refl _) (fun v hv => by cases hv) (fun _ => rfl) (fun _ => hb1.2) (fun τ C' a' W' vs' q ep S' pf g b => ?_) (fun τ C' a' W' vs' p2 Ec es2 W2 ep S' pf g b hc _ => ?_)
  · have tl : tlR t n W = ((q : Int), 1, W) := by
      unfold tlR
      rw [ep]
    refine T_X7_readText_127 S'.1.1 (h_clean S'.1 b ⟨fun _ => back τ C' a' W' vs' _ S' pf g b (by rw [tl]) (by rw [tl]; rfl) (by rw [tl]; rfl), fun z => absurd rfl z⟩)
  · obtain ⟨le, hc⟩ := hc rfl
    cases hl : lsE es2 with
    | some w =>
      have tl : tlR t n W = ((w.1 : Int), w.2, W) := by
        unfold tlR
        rw [ep]
        dsimp only
        rw [hl]
      have ne : ¬ Ec = [] := fun q => by
        rw [q, hl] at le
        cases le
      refine T_X7_readText_127 S'.1.1 (h_clean S'.1 b ⟨fun _ => back τ C' a' W' vs' _ S' pf g b (by rw [tl]) ?_ ?_, fun z => absurd (if_neg ne) z⟩)
      · rw [tl]
        unfold vdP
        dsimp only
        rw [le, hl]
        rfl
      · rw [tl]
        unfold vdR
        dsimp only
        rw [le, hl]
    | none =>
      have e2 := lsE_nil hl
      obtain ⟨w1, w2⟩ := hc e2
      have tl : tlR t n W = (-1, 0, W2) := by
        unfold tlR
        rw [ep]
        dsimp only
        rw [hl]
      have ec : Ec = [] := lsE_nil (le.trans hl)
      subst ec
      refine T_X7_readText_127 S'.1.1 (h_clean S'.1 b ⟨fun z => absurd z (by show ¬ ((if ([] : Evs) = [] then (1 : Int32) else 0) = 0); rw [if_pos rfl]; decide), fun _ => ?_⟩)
      refine cl_stock S'.sk (fun υ sk st ev => ?_)
      have F4 : FX ΦC υ.sh υ.r := by rw [sk.1, sk.2.1]; exact S'.1.1
      obtain ⟨x4, hx4, ex4⟩ := b.nv
      have C4 : CRs B1 C' W' a' υ := S'.cr hb1.1 w2 hx4 ex4 sk st
      have b4 : BdS t n N vs' (.inr (p2, [])) υ := b.cg (fun j _ => sk.2.2.1 40 j (by omega) (by omega)) (sk.2.2.1 28 3 (by omega) (by omega)) (fun j => ⟨sk.2.2.2 29 j (by omega), sk.2.2.2 30 j (by omega)⟩)
      refine cl_verdict F4 nn b4 ?_
      have kk := k (υ.wi 40 2 (vdR (.inr (p2, [])))) ⟨B1, C', a', by rw [tl]; rw [w1] at C4; exact C4.w40, (te3.tr (g.te B1)).tr (TeF.sm sk.1 sk.2.1 (fun b j q => (wi_ne (by omega)).trans (sk.2.2.1 b j (by omega) (by omega))) (fun b j q => by show υ.l b j = τ.l b j; exact sk.2.2.2 b j (by omega))), fun y l j q => ?_, Or.inr ?_, by rw [tl]; exact wi_eq⟩
      · rw [tl] at kk
        exact kk
      · obtain ⟨-, -, -, -, y0', y1', y2', -⟩ := S'.1.2.2.2.2.1
        obtain ⟨q1, q2, q3⟩ := cdA g y l j q
        exact ⟨(wi_ne (by omega)).trans ((sk.2.2.1 _ j (by omega) (by omega)).trans q1), (wi_ne (by omega)).trans ((sk.2.2.1 _ j (by omega) (by omega)).trans q2), (wi_ne (by omega)).trans ((sk.2.2.1 _ j (by omega) (by omega)).trans q3)⟩
      · exact (wi_ne (by omega)).trans (ev.trans (by rw [g1 g 16, ve3]))
end TX6

/-! THE CLASS: tell, program -/
section TELLC
variable {Z : zT} {d : Nat} {B B' : Nat × Nat × Nat × Nat × Nat} {C C' V V' : Nat × Nat × Nat × Nat} {a u u' A A' m m' ver a' : Nat} {W W' : Wld} {pg pg' : Ast} {t t' : Nat → Int32} {n n' wy ch ch' fuel fuel' rs rs' : Nat} {rn rn' : Option (Rs × Es)} {res res' : List Nat} {q q' : Nat} {σ τ υ : Sg} {K : kS} {E : Nat → Prop} {S : Es} {e1 e2 : String}
/-- whether a program was read -/
theorem pr_nn {W : Wld} (h : RnW W) : ((prR t n W).1 = -1 ∧ (prR t n W).2.2.isNil = false) ∨ (0 ≤ (prR t n W).1 ∧ (prR t n W).1 ≤ 100000 ∧ (prR t n W).2.2.isNil = true) ∨ (100000 < (prR t n W).1) := by
  by_cases big : 100000 < (prR t n W).1
  · exact Or.inr (Or.inr big)
  have aux : ((prR t n W).1 = -1 ∧ (prR t n W).2.2.isNil = false) ∨ (0 ≤ (prR t n W).1 ∧ (prR t n W).2.2.isNil = true) := by
    unfold prR
    split
    · rename_i q e
      exact Or.inr ⟨Int.natCast_nonneg _, rfl⟩
    · rename_i p c es x e
      split
      · cases hl : lsE es with
        | none =>
          rw [lsE_nil hl] at e
          have hv := ev_w (W := W) h.1.2.1 (w := -1) (Or.inl rfl)
          have hx := x_ok (t := t) (n := n) hv 12 false (by omega) [] _ _ _ _ _ (by decide) e
          refine Or.inl ⟨rfl, ?_⟩
          show x.isNil = false
          cases x <;> first | rfl | exact hx.elim
        | some w => exact Or.inr ⟨Int.natCast_nonneg _, rfl⟩
      · exact Or.inr ⟨Int.natCast_nonneg _, rfl⟩
  rcases aux with x | x
  · exact Or.inl x
  · exact Or.inr (Or.inl ⟨x.1, by omega, x.2⟩)
theorem nb_1 {x b k : Nat} (h : x = k ∨ 102 ≤ x) (hk : k < 46) (h1 : 46 ≤ b) (h2 : b ≤ 101) : b ≠ x := by omega
theorem nb_0 {x b k : Nat} (h : x = k ∨ 102 ≤ x) (hk : 2 ≤ k) (h1 : b ≤ 1) : b ≠ x := by omega
theorem nb_v {x x' v l : Nat} (h : x' = x ∨ l ≤ x') (hv : v < l) (hx : x ≠ v) : x' ≠ v := by omega
theorem nb_46 {v k : Nat} (h : v = k ∨ 102 ≤ v) (hk : 46 ≤ k) : 46 ≤ v := by omega
theorem nb_q {u u' q x y : Nat} (h : u + 18 * x ≤ 500 * (q + 1)) (hy : y ≤ 24) : u + 18 * y ≤ 500 * (q + 1 + 1) := by omega
theorem te_rm (h : RmH B C V m q σ.sh) (gs : szS τ.sh + 6 * C.1 + 8 * B.1 ≤ szS σ.sh + 6 * C'.1 + 8 * B'.1 ∧ 601 * τ.sh.length + C.1 + 38 * B.1 ≤ 601 * σ.sh.length + C'.1 + 38 * B'.1) : RmH B' C' V m (q + 1) τ.sh := by
  obtain ⟨m1, m2⟩ := h
  obtain ⟨g1, g2⟩ := gs
  exact ⟨by omega, by omega⟩
/-- after reading -/
theorem ClX.te (h : ClX B C V a u A m ver W pg t n wy ch fuel rs rn res q σ) (cr : CRs B' C' W' a' τ) (g : TeF B B' C C' σ τ) (hv : (τ.i 1 16 = σ.i 1 16 ∧ W' = W) ∨ τ.i 1 16 = σ.i 1 16 + 1) (hg : Gro W W') (hWf : WfW W) (h40 : τ.i 40 2 = Int32.ofNat rs') (hq : q ≤ 1000) (h13 : pg'.isNil = pg.isNil) (hp : pg'.isNil = false → (cdB pg' false 0 0).length + 1 ≤ 901 ∧ CdH 0 C'.2.1 C'.2.2.1 C'.2.2.2 (cdB pg' false 0 0 ++ [(25, 0, 0)]) τ) : ∃ ver', ClX B' C' V a' u A m ver' W' pg' t n wy ch fuel rs' rn res (q + 1) τ := by
  have F := h.fx
  have hl0 := F.len
  obtain ⟨k1, ⟨w1, w2⟩, ⟨⟨S0, k3⟩, k4, k5⟩, ⟨ne, wh⟩, ⟨v1, v2⟩, dj, ⟨r8, tm, tx, h9⟩, ⟨c1, c2, c3, c4⟩, ⟨-, r1, r2⟩, ub, rm⟩ := id h
  obtain ⟨hd, gr, gi, gl, gb, gc, gs⟩ := g
  have hA := tx.2.2.2.2
  have lt : ∀ {b : Nat} {s : Sh}, σ.sh[b]? = some s → b < σ.sh.length := fun z => (List.getElem?_eq_some_iff.mp z).1
  have sh : ∀ {b : Nat} {s : Sh}, σ.sh[b]? = some s → τ.sh[b]? = some s := fun z => by
    obtain ⟨dyn, e⟩ := hd
    rw [e, List.getElem?_append_left (lt z)]
    exact z
  obtain ⟨⟨x1, x1'⟩, ⟨x2, x2'⟩, ⟨x3, x3'⟩, ⟨x4, x4'⟩, -, xb0, xb1, xb2, xb3, -⟩ := id k1.1.2.1
  obtain ⟨⟨y1, y1'⟩, ⟨y2, y2'⟩, ⟨y3, y3'⟩, -, p0, p1, p2, -⟩ := id k1.1.2.2.1
  obtain ⟨⟨z1, z1'⟩, ⟨z2, z2'⟩, ⟨z3, z3'⟩, -⟩ := id cr.1.2.2.1
  have lt' : ∀ {b : Nat} {s : Sh}, τ.sh[b]? = some s → b < τ.sh.length := fun z => (List.getElem?_eq_some_iff.mp z).1
  have er : ∀ b, b < σ.sh.length → (46 ≤ b ∨ b = 0) → b ≠ B.2.1 → b ≠ B.2.2.1 → b ≠ C.2.1 → b ≠ C.2.2.1 → b ≠ C.2.2.2 → τ.i b = σ.i b := fun b hb q1 q2 q3 q4 q5 q6 => funext fun j => gi b j hb (q1.elim Or.inl (fun z => Or.inr (Or.inl z))) q2 q3 q4 q5 q6
  have el : ∀ b, b < σ.sh.length → (46 ≤ b ∨ b = 0) → b ≠ B.2.2.2.1 → b ≠ B.2.2.2.2 → τ.l b = σ.l b := fun b hb q1 q2 q3 => funext fun j => gl b j hb q1 q2 q3
  have e100 : ∀ b, 46 ≤ b → b ≤ 101 → τ.i b = σ.i b := fun b q1 q2 => er b (Nat.lt_of_le_of_lt q2 hl0) (Or.inl q1) (nb_1 xb0 (by decide) q1 q2) (nb_1 xb1 (by decide) q1 q2) (nb_1 p0 (by decide) q1 q2) (nb_1 p1 (by decide) q1 q2) (nb_1 p2 (by decide) q1 q2)
  have l100 : ∀ b, 46 ≤ b → b ≤ 101 → τ.l b = σ.l b := fun b q1 q2 => el b (Nat.lt_of_le_of_lt q2 hl0) (Or.inl q1) (nb_1 xb2 (by decide) q1 q2) (nb_1 xb3 (by decide) q1 q2)
  have e0 : τ.i 0 = σ.i 0 := er 0 (Nat.lt_of_lt_of_le (by decide) hl0) (Or.inr rfl) (nb_0 xb0 (by decide) (by decide)) (nb_0 xb1 (by decide) (by decide)) (nb_0 p0 (by decide) (by decide)) (nb_0 p1 (by decide) (by decide)) (nb_0 p2 (by decide) (by decide))
  have e15 : τ.i 1 15 = σ.i 1 15 := gi 1 15 (Nat.lt_of_lt_of_le (by decide) hl0) (Or.inr (Or.inr ⟨rfl, rfl⟩)) (nb_0 xb0 (by decide) (by decide)) (nb_0 xb1 (by decide) (by decide)) (nb_0 p0 (by decide) (by decide)) (nb_0 p1 (by decide) (by decide)) (nb_0 p2 (by decide) (by decide))
  have ne3 : ∀ {b k x : Nat}, σ.sh[b]? = some (Sh.arr k x) → k ≠ 2 → A ≠ b := fun z z' y => by
    rw [← y, tx.1] at z
    cases z
    exact z' rfl
  have eA : τ.i A = σ.i A := er A (lt tx.1) (Or.inl (Nat.le_trans (by decide) hA)) (ne3 x1' (by decide)) (ne3 x2' (by decide)) (ne3 y1' (by decide)) (ne3 y2' (by decide)) (ne3 y3' (by decide))
  obtain ⟨⟨⟨s1, s1'⟩, ⟨s2, s2'⟩, ⟨s3, s3'⟩, s4⟩, t2, t3, t4, t5, t6⟩ := k3
  have s4' := s4
  obtain ⟨-, g0, g1, g2, -⟩ := s4'
  obtain ⟨⟨⟨d1, d2⟩, d3, d4, d5, d6⟩, ⟨⟨n1, n2⟩, n3, n4⟩, ⟨n5, n6, n7⟩, n8⟩ := dj
  have kc1 := k4.1 C.2.1 (Or.inl rfl)
  have kc2 := k4.1 C.2.2.1 (Or.inr (Or.inl rfl))
  have kc3 := k4.1 C.2.2.2 (Or.inr (Or.inr rfl))
  have r46 : τ.r 46 3 = σ.r 46 3 := gr 46 3 (Nat.lt_of_lt_of_le (by decide) hl0) (by decide) (fun z => absurd z.1 (by decide))
  have esq : sqA τ = sqA σ := sqA_g r46
  have sl := ne.sl
  have eQ : τ.i (sqA σ) = σ.i (sqA σ) := er _ sl (Or.inl (nb_46 ne.sq (by decide))) (Ne.symm n1) (Ne.symm n2) (Ne.symm n5) (Ne.symm n6) (Ne.symm n7)
  have hlt : σ.sh.length ≤ τ.sh.length := by
    obtain ⟨dyn, e⟩ := hd
    rw [e, List.length_append]
    exact Nat.le_add_right _ _
  have r56 : ∀ k, τ.r 56 k = σ.r 56 k := fun k => gr 56 k (Nat.lt_of_lt_of_le (by decide) hl0) (by decide) (fun z => absurd z.1 (by decide))
  have eV := er V.2.2.2 (lt s3') (Or.inl (nb_46 g2 (by decide))) (Ne.symm d1) (Ne.symm d2) (Ne.symm kc1.2.2.2) (Ne.symm kc2.2.2.2) (Ne.symm kc3.2.2.2)
  have eV1 := el V.2.1 (lt s1') (Or.inl (nb_46 g0 (by decide))) (Ne.symm d3) (Ne.symm d5)
  have eV2 := el V.2.2.1 (lt s2') (Or.inl (nb_46 g1 (by decide))) (Ne.symm d4) (Ne.symm d6)
  have k3' : SetC τ V u S0 := by
    unfold SetC
    rw [e100 56 (by decide) (by decide), eV, eV1, eV2]
    exact ⟨⟨⟨(r56 8).trans s1, sh s1'⟩, ⟨(r56 9).trans s2, sh s2'⟩, ⟨(r56 10).trans s3, sh s3'⟩, s4⟩, t2, t3, t4, t5, t6⟩
  have vl1 := lt s1'
  have vl2 := lt s2'
  have vl3 := lt s3'
  have cv : CvN C' V τ := by
    refine ⟨fun b hb => ?_, Nat.lt_of_lt_of_le k4.2.1 hlt, by rw [esq]; exact Nat.lt_of_lt_of_le sl hlt, by rw [esq]; exact k4.2.2.2⟩
    rcases hb with rfl | rfl | rfl
    · exact ⟨lt' z1', nb_v gc.1 vl1 kc1.2.1, nb_v gc.1 vl2 kc1.2.2.1, nb_v gc.1 vl3 kc1.2.2.2⟩
    · exact ⟨lt' z2', nb_v gc.2.1 vl1 kc2.2.1, nb_v gc.2.1 vl2 kc2.2.2.1, nb_v gc.2.1 vl3 kc2.2.2.2⟩
    · exact ⟨lt' z3', nb_v gc.2.2 vl1 kc3.2.1, nb_v gc.2.2 vl2 kc3.2.2.1, nb_v gc.2.2 vl3 kc3.2.2.2⟩
  have bl1 := lt x1'
  have bl2 := lt x2'
  have bl3 := lt x3'
  have bl4 := lt x4'
  have dj' : DjS B' V := ⟨⟨nb_v gb.1 vl3 d1, nb_v gb.2.1 vl3 d2⟩, nb_v gb.2.2.1 vl1 d3, nb_v gb.2.2.1 vl2 d4, nb_v gb.2.2.2 vl1 d5, nb_v gb.2.2.2 vl2 d6⟩
  have dn' : DjN B' C' A τ := by
    unfold DjN
    rw [esq]
    exact ⟨⟨⟨nb_v gb.1 sl n1, nb_v gb.2.1 sl n2⟩, nb_v gb.2.2.1 sl n3, nb_v gb.2.2.2 sl n4⟩, ⟨nb_v gc.1 sl n5, nb_v gc.2.1 sl n6, nb_v gc.2.2 sl n7⟩, n8⟩
  have c24 := cr.1.2.2.2.2.2.1.2.1
  have nn : NeS W' τ := ⟨fun i j hi' hj' => by rw [show τ.l (48 + 7) = σ.l 55 from l100 55 (by decide) (by decide)]; exact ne.1 i j hi' hj', (ne.2.gr hg hWf).keep r46 (by rw [e100 46 (by decide) (by decide)]) (fun s z => sh z) eQ⟩
  obtain ⟨ver', hv1, hv2, hli, hwh⟩ : ∃ ver', τ.i 1 16 = Int32.ofNat ver' ∧ ver' ≤ q + 11 ∧ LiS W' τ ∧ WhN W' wy τ := by
    rcases hv with ⟨hv, eW⟩ | hv
    · refine ⟨ver, hv.trans v1, Nat.le_succ_of_le v2, ?_, ?_⟩
      · rw [eW]
        exact k5.keep (e100 57 (by decide) (by decide)) hv (e100 62 (by decide) (by decide)) (e100 63 (by decide) (by decide)) (l100 58 (by decide) (by decide)) (l100 59 (by decide) (by decide)) (l100 60 (by decide) (by decide)) (l100 61 (by decide) (by decide))
      · rw [eW]
        refine ⟨?_, fun H hH => (wh.2 H hH).keep hv (fun j _ _ => by rw [l100 101 (by decide) (by decide)]) (fun j _ _ => by rw [e100 85 (by decide) (by decide)]) (fun j _ _ => ⟨by rw [e100 86 (by decide) (by decide)], by rw [e100 87 (by decide) (by decide)], by rw [e100 88 (by decide) (by decide)]⟩)⟩
        unfold WhS Rw0
        rw [l100 (75 + 7) (by decide) (by decide), e100 68 (by decide) (by decide), e100 69 (by decide) (by decide), e100 70 (by decide) (by decide), hv]
        exact wh.1
    · have hv' : τ.i 1 16 = Int32.ofNat (ver + 1) := by rw [hv, v1, oN_1]
      have vb : ver < 2147483000 := Nat.lt_of_le_of_lt v2 (Nat.lt_of_le_of_lt (Nat.add_le_add_right hq 10) (by decide))
      exact ⟨ver + 1, hv', Nat.succ_le_succ v2, k5.bump v1 vb (e100 57 (by decide) (by decide)) hv' c24, wh.bump v1 vb (e100 68 (by decide) (by decide)) (l100 82 (by decide) (by decide)) (l100 101 (by decide) (by decide)) hv' c24⟩
  refine ⟨ver', cr, ⟨e15.trans w1, w2⟩, ⟨⟨S0, k3'⟩, cv, hli⟩, ⟨nn, hwh⟩, ⟨hv1, by rw [Nat.add_right_comm]; exact hv2⟩, ⟨dj', dn'⟩, ⟨(gr 0 8 (Nat.lt_of_lt_of_le (by decide) hl0) (by decide) (fun z => absurd z.1 (by decide))).trans r8, ⟨tm.1, fun k hk => by rw [eA]; exact tm.2 k hk⟩, ⟨sh tx.1, tx.2.1, fun k hk => by rw [eA]; exact tx.2.2.1 k hk, tx.2.2.2⟩, by rw [e0]; exact h9⟩, ⟨⟨by rw [e0]; exact c1.1, c1.2⟩, ⟨by rw [e0]; exact c2.1, c2.2⟩, by rw [e0, h13]; exact c3, hp⟩, ⟨h40, r1.keep (e100 83 (by decide) (by decide)) (l100 83 (by decide) (by decide)) (by rw [e100 84 (by decide) (by decide)]) (e100 96 (by decide) (by decide)) (e100 97 (by decide) (by decide)), ?_⟩, ?_, ?_⟩
  · unfold ResC
    rw [e0, e100 98 (by decide) (by decide)]
    exact r2
  · rcases hv with ⟨hv, -⟩ | -
    · exact nb_q (u' := 0) ub (upN_le τ)
    · exact nb_q (u' := 0) ub (upN_le τ)
  · rw [sdN_g (e100 46 (by decide) (by decide))]
    exact te_rm rm gs
theorem cc_tell (hZ : ZK Z) (hd : 216 ≤ d) (hq : q ≤ 1000) (hW : PuW W) (h : ClA W pg t n wy ch fuel rs rn res q σ) (hK : ∀ τ, ClA (tlR t n W).2.2 pg t 0 wy ch fuel (tlR t n W).2.1 rn res (q + 1) τ → K (.inl (some (.int (Int32.ofInt (tlR t n W).1)))) τ) : C_X12_tell_0 Z (d + 1) σ K := by
  obtain ⟨d, rfl⟩ : ∃ e, d = e + 1 := ⟨d - 1, by omega⟩
  obtain ⟨B, C, V, a, u, A, m, ver, h⟩ := h
  have F := h.fx
  obtain ⟨k1, -, -, -, -, -, ⟨r8, -, tx, h9⟩, ⟨-, -, -, c4⟩, -⟩ := id h
  refine T_X12_tell_0 F ⟨A, r8, ?_⟩
  rw [h9]
  refine cl_text hZ (by omega) k1 tx (fun τ ⟨B', C', a', cr, te, ck, hv, h40⟩ => ?_)
  obtain ⟨-, -, -, -, p0, p1, p2, -⟩ := id k1.1.2.2.1
  have CK := ck ⟨p0, p1, p2⟩ F.len
  obtain ⟨ver', X⟩ := h.te (pg' := pg) cr te hv (Gro.tl W) hW.1.1 h40 hq rfl (fun z => ⟨(c4 z).1, fun j q hq => by
    have l1 := (c4 z).1
    have jl := (List.getElem?_eq_some_iff.mp hq).1
    rw [List.length_append, List.length_singleton] at jl
    obtain ⟨f0, f1, f2⟩ := CK (0 + j) (by omega)
    rw [f0, f1, f2]
    exact (c4 z).2 j q hq⟩)
  obtain ⟨-, -, -, -, -, -, -, ⟨-, -, x13, x4⟩, -⟩ := id X
  refine hK _ ⟨B', C', V, a', u, A, m, ver', X.pn (pg' := pg) ((XF.refl _ _).wi (a := 0) rfl) (Nat.zero_le _) (wi_at ..) (wi_ne (by decide)) (wi_ne (by decide)) (wi_ne (by decide)) ((wi_ne (by decide)).trans x13) x4⟩
theorem cc_program (hZ : ZK Z) (hd : 216 ≤ d) (hq : q ≤ 1000) (hW : PuW W) (hb : (prR t n W).1 ≤ 100000) (h : ClA W pg t n wy ch fuel rs rn res q σ) (hK : ∀ τ, ClA W (prR t n W).2.2 t 0 wy ch fuel (prR t n W).2.1 rn res (q + 1) τ → K (.inl (some (.int (Int32.ofInt (prR t n W).1)))) τ) : C_X12_program_0 Z (d + 1) σ K := by
  obtain ⟨d, rfl⟩ : ∃ e, d = e + 1 := ⟨d - 1, by omega⟩
  obtain ⟨B, C, V, a, u, A, m, ver, h⟩ := h
  have F := h.fx
  obtain ⟨k1, -, -, -, -, -, ⟨r8, -, tx, h9⟩, ⟨-, -, c3, c4⟩, -⟩ := id h
  refine T_X12_program_0 F ⟨A, r8, ?_⟩
  rw [h9]
  refine cl_prog hZ (by omega) k1 tx (fun τ ⟨B', cr, te, hv, h40, hc⟩ => ?_)
  -- the flag, before it is written
  have h0 : ClX B C V a u A m ver W .nil t n wy ch fuel rs rn res q (σ.wi 0 13 0) := h.pn (pg' := .nil) ((XF.refl _ _).wi (a := 0) rfl) (Nat.le_refl _) ((wi_ne (by decide)).trans h9) (wi_ne (by decide)) (wi_ne (by decide)) (wi_ne (by decide)) (wi_at ..) (fun z => by cases z)
  have hl0 := F.len
  have cr0 : CRs B' C W a (τ.wi 0 13 0) := cr.kp (E := fun b => b = 0) ((XF.refl (fun b => b = 0) τ).wi (a := 0) rfl).kp (fun b _ z => Or.inl z)
  have te0 : TeF B B' C C (σ.wi 0 13 0) (τ.wi 0 13 0) := by
    obtain ⟨t1, t2, t3, t4, t5, t6, t7⟩ := te
    refine ⟨t1, t2, fun b j hb q1 q2 q3 q4 q5 q6 => ?_, t4, t5, t6, t7⟩
    by_cases z : b = 0 ∧ j = 13
    · rw [z.1, z.2, wi_at, wi_at]
    · rw [wi_ne z, wi_ne z]
      exact t3 b j hb q1 q2 q3 q4 q5 q6
  obtain ⟨ver', X⟩ := h0.te (pg' := .nil) (W' := W) (rs' := (prR t n W).2.1) cr0 te0 (Or.inl ⟨(wi_ne (by decide)).trans (hv.trans (wi_ne (by decide)).symm), rfl⟩) (Gro.refl W) hW.1.1 ((wi_ne (by decide)).trans h40) hq rfl (fun z => by cases z)
  rcases pr_nn (t := t) (n := n) hW.1 with ⟨p1, p2⟩ | ⟨p1, p2, p3⟩ | p1
  · rw [p1] at hK ⊢
    refine ⟨fun z => absurd z (by decide), fun _ => ?_⟩
    obtain ⟨c5, c6⟩ := hc p1
    obtain ⟨-, -, -, -, pp0, pp1, pp2, -⟩ := id k1.1.2.2.1
    have gx : XF (fun b => b = 0) (τ.wi 0 13 0) ((τ.wi 0 9 (0 : Int32)).wi 0 13 (1 : Int32)) := ⟨rfl, rfl, fun b z => ⟨funext fun j => by rw [wi_ne (by omega), wi_ne (by omega), wi_ne (by omega)], rfl⟩⟩
    refine hK _ ⟨B', C, V, a, u, A, m, ver', X.pn (pg' := (prR t n W).2.2) gx (Nat.zero_le _) ?_ ?_ ?_ ?_ ?_ (fun _ => ⟨c5, fun j q hq => ?_⟩)⟩
    · rw [wi_ne (by decide), wi_at]
      rfl
    · rw [wi_ne (by decide), wi_ne (by decide), wi_ne (by decide)]
    · rw [wi_ne (by decide), wi_ne (by decide), wi_ne (by decide)]
    · rw [wi_ne (by decide), wi_ne (by decide), wi_ne (by decide)]
    · rw [wi_at, p2]
      rfl
    · rw [wi_ne (by omega), wi_ne (by omega), wi_ne (by omega)]
      exact c6 j q hq
  · have e : ¬ Int32.ofInt (prR t n W).1 < 0 := by
      rw [Int32.lt_iff_toInt_lt, Int32.toInt_ofInt_of_le (by omega) (by omega)]
      show ¬ (prR t n W).1 < 0
      omega
    refine ⟨fun _ => ?_, fun z => absurd (Int32.not_lt.mp e) z⟩
    have gx : XF (fun b => b = 0) (τ.wi 0 13 0) ((τ.wi 0 9 (0 : Int32)).wi 0 13 (0 : Int32)) := ⟨rfl, rfl, fun b z => ⟨funext fun j => by rw [wi_ne (by omega), wi_ne (by omega), wi_ne (by omega)], rfl⟩⟩
    refine hK _ ⟨B', C, V, a, u, A, m, ver', X.pn (pg' := (prR t n W).2.2) gx (Nat.zero_le _) ?_ ?_ ?_ ?_ ?_ (fun z => by rw [p3] at z; cases z)⟩
    · rw [wi_ne (by decide), wi_at]
      rfl
    · rw [wi_ne (by decide), wi_ne (by decide), wi_ne (by decide)]
    · rw [wi_ne (by decide), wi_ne (by decide), wi_ne (by decide)]
    · rw [wi_ne (by decide), wi_ne (by decide), wi_ne (by decide)]
    · rw [wi_at, p3]
      rfl
  · omega
end TELLC

/-! THE REFERENCE'S READER: e() -/
section EE
variable {Z : zT} {d : Nat} {t : Nat → Int32} {n N : Nat} {env : Env} {B : Int32 × Int32} {o : Nat} {e pp : Pf}
theorem vsN_len (t : Nat → Int32) (vs : List (Nat × Nat)) : (vsN t vs).length = vs.length := by
  unfold vsN
  rw [List.length_map]
theorem fol_e (hZ : ZK Z) (ho : o < 12) (He : ∀ d', 20 + 4 * (11 - o) ≤ d' → Fol t n N env B e (o + 1) (B_X23_e_0 Z d')) (Hc : Fol t n N env B (pCo t n env (pCh t n (pCh t n pp 11 12) 9 10)) (o + 1) (B_X23_compared_0 Z d)) (hd : 23 + 4 * (11 - o) ≤ d) : Fol t n N env B (pEb t n env e pp) o (B_X23_e_0 Z (d + 1)) := by
  intro σ p c vs es m lst cap u K S hu h1 h0
  have hvo := S.vo
  have hpn := S.pn
  have hvl := vsN_len t vs
  obtain ⟨b1, b2, b3, b4, b5⟩ := S.bd
  have fin : ∀ p' c' es' x, pEb t n env e pp (vsN t vs) p c = .inr (p', c', es', x) → ∀ τ m' lst' cap' r, RS t n N env (B.1, B.2, Rf.ptr N) τ p' c' (o + 1) vs (es ++ es') m' lst' cap' u → RF N vs.length σ τ lst cap lst' cap' (fun i => m ≤ i) → m ≤ m' → p ≤ p' → TrN τ (Rg lst' m m') x r → r ≠ Rf.nul → K (.inl (some (rv r))) (τ.wi 0 20 (τ.i 0 20 - 1)) := by
    intro p' c' es' x hf τ m' lst' cap' r S' G' hm hp' T hr
    obtain ⟨S2, G2⟩ := S'.out hvo.1
    exact h1 p' c' es' x hf _ m' lst' cap' r S2 (G'.tr G2 (fun _ z => z.elim) (Nat.le_refl _)) hm hp' (T.fr S' G2 (fun _ _ _ z => z)) hr
  refine S_X23_e_0 S.fx (rs_into hZ (by omega) S (fun _ τ1 S1 G1 => ?_) (fun z => by omega))
  have e18 : τ1.i 0 18 = Int32.ofNat p := S1.cur.2.1
  dsimp only [yN]
  rw [e18]
  have H1 : RF N vs.length σ τ1 lst cap lst cap (fun i => m ≤ i) := G1.wk (fun _ z => z.elim) (Nat.le_refl _)
  refine rs_skip (y := 42) (by decide) hZ (by omega) S1 (fun h42 τ2 S2 G2 => ⟨fun z => absurd z (by decide), fun _ => ?_⟩) (fun n42 => ⟨fun _ => ?_, fun z => absurd rfl z⟩)
  · -- let
    have hp : p < n := ty_pos (t := t) (by omega)
    have hg := nxS_gt (t := t) hp
    have H2 := H1.tr G2 (fun _ z => z.elim) (Nat.le_refl _)
    have epE : pEb t n env e pp (vsN t vs) p c = if tyS t n (nxS t n p) = 2 then
      (if tyS t n (nxS t n (nxS t n p)) = 14 then
        bnd (e (vsN t vs) (nxS t n (nxS t n (nxS t n p))) (c + 1)) fun p3 c3 es3 a =>
          if tyS t n p3 = 43 then bnd (e (vsN t vs ++ [nmS t n (nxS t n p)]) (nxS t n p3) c3) fun p4 c4 es4 b => .inr (p4, c4, cnE c p ++ es3 ++ es4, aN 1 (vsN t vs).length 0 a b .nil)
          else .inl p3
      else .inl (nxS t n (nxS t n p)))
    else .inl (nxS t n p) := by
      unfold pEb
      rw [if_pos h42]
    refine rs_counted (by omega) (by omega) S2 (fun τ3 S3 G3 => ⟨N, S3.md, S3.n22, ?_⟩)
    refine rs_get (by omega) S3 (by omega) (fun τ4 lst4 cap4 v S4 G4 hv hN => Or.inl ⟨Rf.ptr v, rfl, ?_⟩)
    obtain ⟨q0, q1, q2, q3, q4, q5, q6, q7, q8, q9, q10, q11⟩ := hN
    have H4 := (H2.tr G3 (fun _ z => z.elim) (Nat.le_refl _)).tr G4 (fun j hj => by omega) (Nat.le_refl _)
    refine rs_name hZ (by omega) S4 (fun h2 hq hl τ5 S5 G5 => ?_) (fun n2 τ5 a w => h0 _ (by rw [epE, if_neg n2]) τ5 a (w.tr (m0 := m) H4 (fun _ z => z) (by omega) (Nat.le_refl _)))
    rw [if_pos h2] at epE
    have hg2 := nxS_gt (t := t) (n := n) (p := nxS t n p) (ty_pos (t := t) (by omega))
    have H5 := H4.tr G5 (fun _ z => z.elim) (Nat.le_refl _)
    refine rs_want (y := 14) (by decide) hZ (by omega) S5 (fun h14 τ6 S6 G6 => ?_) (fun n14 τ6 a w => h0 _ (by rw [epE, if_neg n14]) τ6 a (w.tr (m0 := m) H5 (fun _ z => z) (by omega) (Nat.le_refl _)))
    rw [if_pos h14] at epE
    have hg3 := nxS_gt (t := t) (n := n) (p := nxS t n (nxS t n p)) (ty_pos (t := t) (by omega))
    have H6 := H5.tr G6 (fun _ z => z.elim) (Nat.le_refl _)
    have G46 : RF N vs.length τ4 τ6 lst4 cap4 lst4 cap4 (fun _ => False) := G5.tr G6 (fun _ z => z) (Nat.le_refl _)
    obtain ⟨x1, x2, x3, x4⟩ := nd_keep S4 G46 hv (fun z => z)
    refine He d (by omega) τ6 _ _ vs _ (m + 1) lst4 cap4 _ _ S6 (by omega) (fun p7 c7 es7 a hf7 τ7 m7 lst7 cap7 r7 S7 G7 hm7 hp7 T7 hr7 => Or.inl ⟨r7, rfl, v, rfl, ?_⟩) (fun q hf7 τ7 a w => Or.inr ⟨_, rfl, h0 q (by rw [epE, hf7]; rfl) τ7 a (w.tr (m0 := m) H6 (fun _ z => z) (by omega) (Nat.le_refl _))⟩)
    have hv7 := G7.pre _ _ hv
    obtain ⟨y1, y2, y3, y4⟩ := nd_keep S6 G7 hv (by omega)
    obtain ⟨S8, G8⟩ := S7.nwr (k := 5) (x := r7) hv7
    have H8 := (H6.tr G7 (fun j hj => by omega) (Nat.le_refl _)).tr G8 (fun j hj => by omega) (Nat.le_refl _)
    have epF : pEb t n env e pp (vsN t vs) p c = if tyS t n p7 = 43 then bnd (e (vsN t vs ++ [nmS t n (nxS t n p)]) (nxS t n p7) c7) fun p4 c4 es4 b => .inr (p4, c4, cnE c p ++ es7 ++ es4, aN 1 (vsN t vs).length 0 a b .nil) else .inl p7 := by
      rw [epE, hf7]
      rfl
    refine ⟨y1, ?_⟩
    refine rs_wantw (y := 43) (by decide) hZ (by omega) S8 (fun h43 τ9 S9 G9 => ?_) (fun n43 τ9 x w => h0 _ (by rw [epF, if_neg n43]) τ9 x (w.tr (m0 := m) H8 (fun _ z => z) (by omega) (Nat.le_refl _)))
    rw [if_pos h43] at epF
    have hg4 := nxS_gt (t := t) (n := n) (p := p7) (ty_pos (t := t) (by omega))
    have H9 := H8.tr G9 (fun _ z => z.elim) (Nat.le_refl _)
    obtain ⟨z1, z2, z3, z4⟩ := nd_keep S8 G9 hv7 (fun z => z)
    have T9 := (T7.fr S7 G8 (fun i i1 i2 i3 => by omega)).fr S8 G9 (fun _ _ _ z => z)
    obtain ⟨d, rfl⟩ : ∃ x, d = x + 1 := ⟨d - 1, by omega⟩
    refine rs_under (i := m) (He d (by omega)) S9 (by omega) (by omega) hq hl (by omega) hv7 (fun p10 c10 es10 b hf10 τ10 m10 lst10 cap10 r10 S10 G10 hm10 hp10 T10 hr10 hv10 hs10 e2 ei er => Or.inl ⟨r10, rfl, hs10, ?_⟩) (fun q hf10 τ10 x w => Or.inr ⟨_, rfl, h0 q (by rw [epF]; show bnd (e (vsN t vs ++ [txN t (nxS t n p) (lnS t n (nxS t n p))]) (nxS t n p7) c7) _ = _; rw [hf10]; rfl) τ10 x (w.tr (m0 := m) H9 (fun _ z => z) (Nat.le_refl _) (Nat.le_refl _))⟩)
    obtain ⟨S11, G11⟩ := S10.nwr (k := 6) (x := r10) hv10
    have eas : es ++ cnE c p ++ es7 ++ es10 = es ++ (cnE c p ++ es7 ++ es10) := by simp only [List.append_assoc]
    rw [eas] at S11
    refine fin p10 c10 _ _ (by rw [epF]; show bnd (e (vsN t vs ++ [txN t (nxS t n p) (lnS t n (nxS t n p))]) (nxS t n p7) c7) _ = _; rw [hf10]; rfl) (τ10.wr v 6 r10) m10 lst10 cap10 (Rf.ptr v) (S11.wk (by omega) (by omega)) ((H9.tr G10 (fun j hj => by omega) (Nat.le_refl _)).tr G11 (fun j hj => by omega) (Nat.le_refl _)) (by omega) (by omega) ?_ (by intro z; cases z)
    rw [TrN_aN]
    refine ⟨v, rfl, ⟨m, Nat.le_refl _, by omega, hv10⟩, hs10, ⟨fun _ => ?_, fun _ => ?_, fun z => by omega, fun z => by omega, fun z => by omega, fun z => by omega⟩, ?_, ?_, ?_⟩
    · show τ10.i v 0 = _
      rw [ei 0 (by decide), z2]
      show τ7.i v 0 = _
      rw [y2, x2]
      exact q0
    · show τ10.i v 2 = _
      rw [e2, hvl]
      rfl
    · rw [wr_ne (by omega), er, z4, wr_at]
      exact ((T9.fr S9 G10 (fun i i1 i2 => by omega)).fr S10 G11 (fun i i1 i2 i3 => by omega)).wk (by omega) (by omega)
    · rw [if_neg (by omega), wr_at]
      exact (T10.fr S10 G11 (fun i i1 i2 i3 => by omega)).wk (by omega) (Nat.le_refl _)
    · rw [wr_ne (by omega), er, z4, wr_ne (by omega), y4, x4]
      exact q7
  refine rs_skip (y := 29) (by decide) hZ (by omega) S1 (fun h29 τ2 S2 G2 => ⟨fun z => absurd z (by decide), fun _ => ?_⟩) (fun n29 => ⟨fun _ => ?_, fun z => absurd rfl z⟩)
  · -- if
    have hp : p < n := ty_pos (t := t) (by omega)
    have hg := nxS_gt (t := t) hp
    have H2 := H1.tr G2 (fun _ z => z.elim) (Nat.le_refl _)
    have epE : pEb t n env e pp (vsN t vs) p c = bnd (e (vsN t vs) (nxS t n p) (c + 1)) fun p1 c1 es1 a =>
      if tyS t n p1 = 43 then bnd (e (vsN t vs) (nxS t n p1) c1) fun p2 c2 es2 b =>
        if tyS t n p2 = 44 then bnd (e (vsN t vs) (nxS t n p2) c2) fun p3 c3 es3 x => .inr (p3, c3, cnE c p ++ es1 ++ es2 ++ es3, aN 2 0 0 a b x)
        else .inl p2
      else .inl p1 := by
      unfold pEb
      rw [if_neg n42, if_pos h29]
    refine rs_counted (by omega) (by omega) S2 (fun τ3 S3 G3 => ⟨N, S3.md, S3.n22, ?_⟩)
    refine rs_get (by omega) S3 (by omega) (fun τ4 lst4 cap4 v S4 G4 hv hN => Or.inl ⟨Rf.ptr v, rfl, ?_⟩)
    obtain ⟨q0, q1, q2, q3, q4, q5, q6, q7, q8, q9, q10, q11⟩ := hN
    have H4 := (H2.tr G3 (fun _ z => z.elim) (Nat.le_refl _)).tr G4 (fun j hj => by omega) (Nat.le_refl _)
    refine He d (by omega) τ4 _ _ vs _ (m + 1) lst4 cap4 _ _ S4 (by omega) (fun p7 c7 es7 a hf7 τ7 m7 lst7 cap7 r7 S7 G7 hm7 hp7 T7 hr7 => Or.inl ⟨r7, rfl, v, rfl, ?_⟩) (fun q hf7 τ7 a w => Or.inr ⟨_, rfl, h0 q (by rw [epE, hf7]; rfl) τ7 a (w.tr (m0 := m) H4 (fun _ z => z) (by omega) (Nat.le_refl _))⟩)
    have hv7 := G7.pre _ _ hv
    obtain ⟨y1, y2, y3, y4⟩ := nd_keep S4 G7 hv (by omega)
    obtain ⟨S8, G8⟩ := S7.nwr (k := 5) (x := r7) hv7
    have H8 := (H4.tr G7 (fun j hj => by omega) (Nat.le_refl _)).tr G8 (fun j hj => by omega) (Nat.le_refl _)
    have epF : pEb t n env e pp (vsN t vs) p c = if tyS t n p7 = 43 then bnd (e (vsN t vs) (nxS t n p7) c7) fun p2 c2 es2 b =>
        if tyS t n p2 = 44 then bnd (e (vsN t vs) (nxS t n p2) c2) fun p3 c3 es3 x => .inr (p3, c3, cnE c p ++ es7 ++ es2 ++ es3, aN 2 0 0 a b x)
        else .inl p2
      else .inl p7 := by
      rw [epE, hf7]
      rfl
    refine ⟨y1, ?_⟩
    refine rs_wantw (y := 43) (by decide) hZ (by omega) S8 (fun h43 τ9 S9 G9 => ?_) (fun n43 τ9 x w => h0 _ (by rw [epF, if_neg n43]) τ9 x (w.tr (m0 := m) H8 (fun _ z => z) (by omega) (Nat.le_refl _)))
    rw [if_pos h43] at epF
    have hg4 := nxS_gt (t := t) (n := n) (p := p7) (ty_pos (t := t) (by omega))
    have H9 := H8.tr G9 (fun _ z => z.elim) (Nat.le_refl _)
    obtain ⟨z1, z2, z3, z4⟩ := nd_keep S8 G9 hv7 (fun z => z)
    have T9 := (T7.fr S7 G8 (fun i i1 i2 i3 => by omega)).fr S8 G9 (fun _ _ _ z => z)
    refine He d (by omega) τ9 _ _ vs _ m7 lst7 cap7 _ _ S9 (by omega) (fun p10 c10 es10 b hf10 τ10 m10 lst10 cap10 r10 S10 G10 hm10 hp10 T10 hr10 => Or.inl ⟨r10, rfl, ?_⟩) (fun q hf10 τ10 x w => Or.inr ⟨_, rfl, h0 q (by rw [epF, hf10]; rfl) τ10 x (w.tr (m0 := m) H9 (fun _ z => z) (by omega) (Nat.le_refl _))⟩)
    have hv10 := G10.pre _ _ hv7
    obtain ⟨w1, w2, w3, w4⟩ := nd_keep S9 G10 hv7 (by omega)
    obtain ⟨S11, G11⟩ := S10.nwr (k := 6) (x := r10) hv10
    have H11 := (H9.tr G10 (fun j hj => by omega) (Nat.le_refl _)).tr G11 (fun j hj => by omega) (Nat.le_refl _)
    have epG : pEb t n env e pp (vsN t vs) p c = if tyS t n p10 = 44 then bnd (e (vsN t vs) (nxS t n p10) c10) fun p3 c3 es3 x => .inr (p3, c3, cnE c p ++ es7 ++ es10 ++ es3, aN 2 0 0 a b x)
        else .inl p10 := by
      rw [epF, hf10]
      rfl
    refine ⟨w1, ?_⟩
    refine rs_wantw (y := 44) (by decide) hZ (by omega) S11 (fun h44 τ12 S12 G12 => ?_) (fun n44 τ12 x w => h0 _ (by rw [epG, if_neg n44]) τ12 x (w.tr (m0 := m) H11 (fun _ z => z) (by omega) (Nat.le_refl _)))
    rw [if_pos h44] at epG
    have hg5 := nxS_gt (t := t) (n := n) (p := p10) (ty_pos (t := t) (by omega))
    have H12 := H11.tr G12 (fun _ z => z.elim) (Nat.le_refl _)
    obtain ⟨k1, k2, k3, k4⟩ := nd_keep S11 G12 hv10 (fun z => z)
    have T12 := ((T9.fr S9 G10 (fun i i1 i2 => by omega)).fr S10 G11 (fun i i1 i2 i3 => by omega)).fr S11 G12 (fun _ _ _ z => z)
    have U12 := (T10.fr S10 G11 (fun i i1 i2 i3 => by omega)).fr S11 G12 (fun _ _ _ z => z)
    refine He d (by omega) τ12 _ _ vs _ m10 lst10 cap10 _ _ S12 (by omega) (fun p13 c13 es13 x hf13 τ13 m13 lst13 cap13 r13 S13 G13 hm13 hp13 T13 hr13 => Or.inl ⟨r13, rfl, ?_⟩) (fun q hf13 τ13 x w => Or.inr ⟨_, rfl, h0 q (by rw [epG, hf13]; rfl) τ13 x (w.tr (m0 := m) H12 (fun _ z => z) (by omega) (Nat.le_refl _))⟩)
    have hv13 := G13.pre _ _ hv10
    obtain ⟨l1, l2, l3, l4⟩ := nd_keep S12 G13 hv10 (by omega)
    obtain ⟨S14, G14⟩ := S13.nwr (k := 7) (x := r13) hv13
    have eas : es ++ cnE c p ++ es7 ++ es10 ++ es13 = es ++ (cnE c p ++ es7 ++ es10 ++ es13) := by simp only [List.append_assoc]
    rw [eas] at S14
    refine ⟨l1, ?_⟩
    refine fin p13 c13 _ _ (by rw [epG, hf13]; rfl) (τ13.wr v 7 r13) m13 lst13 cap13 (Rf.ptr v) (S14.wk (by omega) (by omega)) ((H12.tr G13 (fun j hj => by omega) (Nat.le_refl _)).tr G14 (fun j hj => by omega) (Nat.le_refl _)) (by omega) (by omega) ?_ (by intro z; cases z)
    rw [TrN_aN]
    refine ⟨v, rfl, ⟨m, Nat.le_refl _, by omega, hv13⟩, l1, ⟨fun _ => ?_, fun z => by omega, fun z => by omega, fun z => by omega, fun z => by omega, fun z => by omega⟩, ?_, ?_, ?_⟩
    · show τ13.i v 0 = _
      rw [l2, k2]
      show τ10.i v 0 = _
      rw [w2, z2]
      show τ7.i v 0 = _
      rw [y2]
      exact q0
    · rw [wr_ne (by omega), l4, k4, wr_ne (by omega), w4, z4, wr_at]
      exact ((T12.fr S12 G13 (fun i i1 i2 => by omega)).fr S13 G14 (fun i i1 i2 i3 => by omega)).wk (by omega) (by omega)
    · rw [if_neg (by omega), wr_ne (by omega), l4, k4, wr_at]
      exact ((U12.fr S12 G13 (fun i i1 i2 => by omega)).fr S13 G14 (fun i i1 i2 i3 => by omega)).wk (by omega) (by omega)
    · rw [wr_at]
      exact (T13.fr S13 G14 (fun i i1 i2 i3 => by omega)).wk (by omega) (Nat.le_refl _)
  -- with, without
  have wth : tyS t n p = 45 ∨ tyS t n p = 46 → B_X23_e_150 Z (d + 1) τ1 (Int32.ofNat p) K := by
    intro hty
    have hp : p < n := ty_pos (t := t) (by omega)
    have hg := nxS_gt (t := t) hp
    have hnx := nxS_le t (n := n) (p := p) (by omega)
    have epE : pEb t n env e pp (vsN t vs) p c = if tyS t n (nxS t n p) = 2 then
      (if tyS t n (nxS t n (nxS t n p)) = 47 then
        bnd (e (vsN t vs) (nxS t n (nxS t n (nxS t n p))) (c + 1)) fun p3 c3 es3 a => .inr (p3, c3, cnE c p ++ (if env.2.2.1 (nmS t n (nxS t n p)) = none then [(nxS t n p, 3)] else []) ++ es3, aN (if tyS t n p = 45 then 3 else 4) (idx (env.2.2.1 (nmS t n (nxS t n p)))) 0 a .nil .nil)
      else .inl (nxS t n (nxS t n p)))
    else .inl (nxS t n p) := by
      unfold pEb
      rw [if_neg n42, if_neg n29, if_pos hty]
    refine S_X23_e_150 S1.fx (rs_counted (by omega) (by omega) S1 (fun τ2 S2 G2 => ⟨N, S2.md, ?_⟩))
    have H2 := H1.tr G2 (fun _ z => z.elim) (Nat.le_refl _)
    have go : ∀ opn : Nat, (if tyS t n p = 45 then 3 else 4) = opn → opn = 3 ∨ opn = 4 → B_X23_e_173 Z (d + 1) τ2 N (Int32.ofNat opn) K := by
      intro opn ho1 ho2
      rw [ho1] at epE
      refine S_X23_e_173 S2.fx ⟨S2.n22, ?_⟩
      refine rs_get (by omega) S2 (by omega) (fun τ4 lst4 cap4 v S4 G4 hv hN => Or.inl ⟨Rf.ptr v, rfl, ?_⟩)
      obtain ⟨q0, q1, q2, q3, q4, q5, q6, q7, q8, q9, q10, q11⟩ := hN
      have H4 := H2.tr G4 (fun j hj => by omega) (Nat.le_refl _)
      refine rs_next hZ (by omega) S4 hp (fun τ5 S5 G5 => ?_)
      have H5 := H4.tr G5 (fun _ z => z.elim) (Nat.le_refl _)
      refine rs_name hZ (by omega) S5 (fun h2 hq hl τ6 S6 G6 => ?_) (fun n2 τ6 a w => h0 _ (by rw [epE, if_neg n2]) τ6 a (w.tr (m0 := m) H5 (fun _ z => z) (by omega) (Nat.le_refl _)))
      rw [if_pos h2] at epE
      have hg2 := nxS_gt (t := t) (n := n) (p := nxS t n p) (ty_pos (t := t) (by omega))
      have H6 := H5.tr G6 (fun _ z => z.elim) (Nat.le_refl _)
      refine rs_layer (by omega) S6 hq hl ⟨v, rfl, S6.ls.2.2.2.1 v (List.mem_of_getElem? hv), ?_⟩
      have enm : txN t (nxS t n p) (lnS t n (nxS t n p)) = nmS t n (nxS t n p) := rfl
      rw [enm, wi_at]
      obtain ⟨S7, G7⟩ := S6.nwi (k := 1) (x := Int32.ofInt (idx (env.2.2.1 (nmS t n (nxS t n p))))) hv
      have G46 : RF N vs.length τ4 τ6 lst4 cap4 lst4 cap4 (fun _ => False) := G5.tr G6 (fun _ z => z) (Nat.le_refl _)
      obtain ⟨x1, x2, x3, x4⟩ := nd_keep S4 G46 hv (fun z => z)
      have H7 := H6.tr G7 (fun j hj => by omega) (Nat.le_refl _)
      have go2 : ∀ (τ8 : Sg) (es8 : Evs), es8 = (if env.2.2.1 (nmS t n (nxS t n p)) = none then [(nxS t n p, 3)] else []) → RS t n N env (B.1, B.2, Rf.ptr N) τ8 (nxS t n (nxS t n p)) (c + 1) (o + 1) vs (es ++ cnE c p ++ es8) (m + 1) lst4 cap4 (u + 1 - 2 - 2) → RF N vs.length (τ6.wi v 1 (Int32.ofInt (idx (env.2.2.1 (nmS t n (nxS t n p)))))) τ8 lst4 cap4 lst4 cap4 (fun _ => False) → B_X23_e_211 Z (d + 1) τ8 v K := by
        intro τ8 es8 he S8 G8
        rw [← he] at epE
        have H8 := H7.tr G8 (fun _ z => z.elim) (Nat.le_refl _)
        refine S_X23_e_211 S8.fx (rs_wantw (y := 47) (by decide) hZ (by omega) S8 (fun h47 τ9 S9 G9 => ?_) (fun n47 τ9 a w => h0 _ (by rw [epE, if_neg n47]) τ9 a (w.tr (m0 := m) H8 (fun _ z => z) (by omega) (Nat.le_refl _))))
        rw [if_pos h47] at epE
        have hg3 := nxS_gt (t := t) (n := n) (p := nxS t n (nxS t n p)) (ty_pos (t := t) (by omega))
        have H9 := H8.tr G9 (fun _ z => z.elim) (Nat.le_refl _)
        obtain ⟨y1, y2, y3, y4⟩ := nd_keep S7 (G8.tr G9 (fun _ z => z) (Nat.le_refl _)) hv (fun z => z)
        refine He d (by omega) τ9 _ _ vs _ (m + 1) lst4 cap4 _ _ S9 (by omega) (fun p10 c10 es10 b hf10 τ10 m10 lst10 cap10 r10 S10 G10 hm10 hp10 T10 hr10 => Or.inl ⟨r10, rfl, ?_⟩) (fun q hf10 τ10 x w => Or.inr ⟨_, rfl, h0 q (by rw [epE, hf10]; rfl) τ10 x (w.tr (m0 := m) H9 (fun _ z => z) (by omega) (Nat.le_refl _))⟩)
        have hv10 := G10.pre _ _ hv
        obtain ⟨w1, w2, w3, w4⟩ := nd_keep S9 G10 hv (by omega)
        obtain ⟨S11, G11⟩ := S10.nwr (k := 5) (x := r10) hv10
        refine ⟨w1, ?_⟩
        have eas : es ++ cnE c p ++ es8 ++ es10 = es ++ (cnE c p ++ es8 ++ es10) := by simp only [List.append_assoc]
        rw [eas] at S11
        refine fin p10 c10 _ _ (by rw [epE, hf10]; rfl) (τ10.wr v 5 r10) m10 lst10 cap10 (Rf.ptr v) (S11.wk (by omega) (by omega)) ((H9.tr G10 (fun j hj => by omega) (Nat.le_refl _)).tr G11 (fun j hj => by omega) (Nat.le_refl _)) (by omega) (by omega) ?_ (by intro z; cases z)
        rw [TrN_aN]
        refine ⟨v, rfl, ⟨m, Nat.le_refl _, by omega, hv10⟩, w1, ⟨fun _ => ?_, fun z => by omega, fun _ => ?_, fun z => by omega, fun z => by omega, fun z => by omega⟩, ?_, ?_, ?_⟩
        · show τ10.i v 0 = _
          rw [w2, y2, wi_ne (by omega), x2]
          exact q0
        · show τ10.i v 1 = _
          rw [w2, y2, wi_at]
        · rw [wr_at]
          exact (T10.fr S10 G11 (fun i i1 i2 i3 => by omega)).wk (by omega) (Nat.le_refl _)
        · rw [if_neg (by omega), wr_ne (by omega), w4, y4]
          show τ6.r v 6 = _
          rw [x4]
          exact q6
        · rw [wr_ne (by omega), w4, y4]
          show τ6.r v 7 = _
          rw [x4]
          exact q7
      have enk : ∀ k, env.2.2.1 (nmS t n (nxS t n p)) = some k → k < 24 := by
        intro k hk
        obtain ⟨ks, cs, ls, -, -, ⟨k1, k2, k3, k4⟩, -⟩ := S6.en
        rw [k4] at hk
        have := fi_lt hk
        omega
      cases hk : env.2.2.1 (nmS t n (nxS t n p)) with
      | some k =>
        have k24 := enk k hk
        rw [hk] at go2 S7
        refine ⟨fun _ => go2 _ [] (by rw [if_neg (by intro z; cases z)]) ?_ (RF.refl _ _ _ _ _ _), fun z => absurd ((oN_le (a := 0) (by omega) (by omega)).mpr (Nat.zero_le k)) z⟩
        rw [List.append_nil]
        exact S7
      | none =>
        rw [hk] at go2 S7
        refine ⟨fun z => absurd z (by decide), fun _ => ?_⟩
        rw [S5.cur.2.1]
        exact rs_breaks (r := 3) (by omega) (by omega) (by decide) S7 (fun τ8 S8 G8 => go2 τ8 [(nxS t n p, 3)] (by rw [if_pos rfl]) S8 G8)
    refine rs_isw (y := 45) (by decide) hZ (by omega) S2 (fun h45 => ⟨fun z => absurd z (by decide), fun _ => go 3 (if_pos h45) (Or.inl rfl)⟩) (fun n45 => ⟨fun _ => go 4 (if_neg n45) (Or.inr rfl), fun z => absurd rfl z⟩)
  refine rs_isw (y := 45) (by decide) hZ (by omega) S1 (fun h45 => ⟨fun _ => wth (Or.inl h45), fun z => absurd z (by decide)⟩) (fun n45 => ⟨fun z => absurd rfl z, fun _ => ?_⟩)
  refine rs_isw (y := 46) (by decide) hZ (by omega) S1 (fun h46 => ⟨fun z => absurd z (by decide), fun _ => wth (Or.inr h46)⟩) (fun n46 => ⟨fun _ => ?_, fun z => absurd rfl z⟩)
  refine rs_skip (y := 48) (by decide) hZ (by omega) S1 (fun h48 τ2 S2 G2 => ⟨fun z => absurd z (by decide), fun _ => ?_⟩) (fun n48 => ⟨fun _ => ?_, fun z => absurd rfl z⟩)
  · -- try
    have hp : p < n := ty_pos (t := t) (by omega)
    have hg := nxS_gt (t := t) hp
    have H2 := H1.tr G2 (fun _ z => z.elim) (Nat.le_refl _)
    have epE : pEb t n env e pp (vsN t vs) p c = bnd (e (vsN t vs) (nxS t n p) (c + 1)) fun p1 c1 es1 a =>
      if tyS t n p1 = 49 then
        (if tyS t n (nxS t n p1) = 2 then
          (if tyS t n (nxS t n (nxS t n p1)) = 47 then
            bnd (e (vsN t vs ++ [nmS t n (nxS t n p1)]) (nxS t n (nxS t n (nxS t n p1))) c1) fun p4 c4 es4 b => .inr (p4, c4, cnE c p ++ es1 ++ es4, aN 5 (vsN t vs).length 0 a b .nil)
          else .inl (nxS t n (nxS t n p1)))
        else .inl (nxS t n p1))
      else .inl p1 := by
      unfold pEb
      rw [if_neg n42, if_neg n29, if_neg (by omega), if_pos h48]
    refine rs_counted (by omega) (by omega) S2 (fun τ3 S3 G3 => ⟨N, S3.md, S3.n22, ?_⟩)
    refine rs_get (by omega) S3 (by omega) (fun τ4 lst4 cap4 v S4 G4 hv hN => Or.inl ⟨Rf.ptr v, rfl, ?_⟩)
    obtain ⟨q0, q1, q2, q3, q4, q5, q6, q7, q8, q9, q10, q11⟩ := hN
    have H4 := (H2.tr G3 (fun _ z => z.elim) (Nat.le_refl _)).tr G4 (fun j hj => by omega) (Nat.le_refl _)
    refine He d (by omega) τ4 _ _ vs _ (m + 1) lst4 cap4 _ _ S4 (by omega) (fun p7 c7 es7 a hf7 τ7 m7 lst7 cap7 r7 S7 G7 hm7 hp7 T7 hr7 => Or.inl ⟨r7, rfl, v, rfl, ?_⟩) (fun q hf7 τ7 a w => Or.inr ⟨_, rfl, h0 q (by rw [epE, hf7]; rfl) τ7 a (w.tr (m0 := m) H4 (fun _ z => z) (by omega) (Nat.le_refl _))⟩)
    have hv7 := G7.pre _ _ hv
    obtain ⟨y1, y2, y3, y4⟩ := nd_keep S4 G7 hv (by omega)
    obtain ⟨S8, G8⟩ := S7.nwr (k := 5) (x := r7) hv7
    have H8 := (H4.tr G7 (fun j hj => by omega) (Nat.le_refl _)).tr G8 (fun j hj => by omega) (Nat.le_refl _)
    have epF : pEb t n env e pp (vsN t vs) p c = if tyS t n p7 = 49 then
        (if tyS t n (nxS t n p7) = 2 then
          (if tyS t n (nxS t n (nxS t n p7)) = 47 then
            bnd (e (vsN t vs ++ [nmS t n (nxS t n p7)]) (nxS t n (nxS t n (nxS t n p7))) c7) fun p4 c4 es4 b => .inr (p4, c4, cnE c p ++ es7 ++ es4, aN 5 (vsN t vs).length 0 a b .nil)
          else .inl (nxS t n (nxS t n p7)))
        else .inl (nxS t n p7))
      else .inl p7 := by
      rw [epE, hf7]
      rfl
    refine ⟨y1, ?_⟩
    refine rs_wantw (y := 49) (by decide) hZ (by omega) S8 (fun h49 τ9 S9 G9 => ?_) (fun n49 τ9 x w => h0 _ (by rw [epF, if_neg n49]) τ9 x (w.tr (m0 := m) H8 (fun _ z => z) (by omega) (Nat.le_refl _)))
    rw [if_pos h49] at epF
    have hg4 := nxS_gt (t := t) (n := n) (p := p7) (ty_pos (t := t) (by omega))
    have H9 := H8.tr G9 (fun _ z => z.elim) (Nat.le_refl _)
    refine rs_name hZ (by omega) S9 (fun h2 hq hl τ10 S10 G10 => ?_) (fun n2 τ10 x w => h0 _ (by rw [epF, if_neg n2]) τ10 x (w.tr (m0 := m) H9 (fun _ z => z) (by omega) (Nat.le_refl _)))
    rw [if_pos h2] at epF
    have hg5 := nxS_gt (t := t) (n := n) (p := nxS t n p7) (ty_pos (t := t) (by omega))
    have H10 := H9.tr G10 (fun _ z => z.elim) (Nat.le_refl _)
    refine rs_wantw (y := 47) (by decide) hZ (by omega) S10 (fun h47 τ11 S11 G11 => ?_) (fun n47 τ11 x w => h0 _ (by rw [epF, if_neg n47]) τ11 x (w.tr (m0 := m) H10 (fun _ z => z) (by omega) (Nat.le_refl _)))
    rw [if_pos h47] at epF
    have hg6 := nxS_gt (t := t) (n := n) (p := nxS t n (nxS t n p7)) (ty_pos (t := t) (by omega))
    have H11 := H10.tr G11 (fun _ z => z.elim) (Nat.le_refl _)
    have G811 := (G9.tr G10 (fun _ z => z) (Nat.le_refl _)).tr G11 (fun _ z => z) (Nat.le_refl _)
    obtain ⟨z1, z2, z3, z4⟩ := nd_keep S8 G811 hv7 (fun z => z)
    have T11 := (T7.fr S7 G8 (fun i i1 i2 i3 => by omega)).fr S8 G811 (fun _ _ _ z => z)
    obtain ⟨d, rfl⟩ : ∃ x, d = x + 1 := ⟨d - 1, by omega⟩
    refine rs_under (i := m) (He d (by omega)) S11 (by omega) (by omega) hq hl (by omega) hv7 (fun p12 c12 es12 b hf12 τ12 m12 lst12 cap12 r12 S12 G12 hm12 hp12 T12 hr12 hv12 hs12 e2 ei er => Or.inl ⟨r12, rfl, hs12, ?_⟩) (fun q hf12 τ12 x w => Or.inr ⟨_, rfl, h0 q (by rw [epF]; show bnd (e (vsN t vs ++ [txN t (nxS t n p7) (lnS t n (nxS t n p7))]) (nxS t n (nxS t n (nxS t n p7))) c7) _ = _; rw [hf12]; rfl) τ12 x (w.tr (m0 := m) H11 (fun _ z => z) (Nat.le_refl _) (Nat.le_refl _))⟩)
    obtain ⟨S13, G13⟩ := S12.nwr (k := 6) (x := r12) hv12
    have eas : es ++ cnE c p ++ es7 ++ es12 = es ++ (cnE c p ++ es7 ++ es12) := by simp only [List.append_assoc]
    rw [eas] at S13
    refine fin p12 c12 _ _ (by rw [epF]; show bnd (e (vsN t vs ++ [txN t (nxS t n p7) (lnS t n (nxS t n p7))]) (nxS t n (nxS t n (nxS t n p7))) c7) _ = _; rw [hf12]; rfl) (τ12.wr v 6 r12) m12 lst12 cap12 (Rf.ptr v) (S13.wk (by omega) (by omega)) ((H11.tr G12 (fun j hj => by omega) (Nat.le_refl _)).tr G13 (fun j hj => by omega) (Nat.le_refl _)) (by omega) (by omega) ?_ (by intro z; cases z)
    rw [TrN_aN]
    refine ⟨v, rfl, ⟨m, Nat.le_refl _, by omega, hv12⟩, hs12, ⟨fun _ => ?_, fun _ => ?_, fun z => by omega, fun z => by omega, fun z => by omega, fun z => by omega⟩, ?_, ?_, ?_⟩
    · show τ12.i v 0 = _
      rw [ei 0 (by decide), z2]
      show τ7.i v 0 = _
      rw [y2]
      exact q0
    · show τ12.i v 2 = _
      rw [e2, hvl]
      rfl
    · rw [wr_ne (by omega), er, z4, wr_at]
      exact ((T11.fr S11 G12 (fun i i1 i2 => by omega)).fr S12 G13 (fun i i1 i2 i3 => by omega)).wk (by omega) (by omega)
    · rw [if_neg (by omega), wr_at]
      exact (T12.fr S12 G13 (fun i i1 i2 i3 => by omega)).wk (by omega) (Nat.le_refl _)
    · rw [wr_ne (by omega), er, z4, wr_ne (by omega), y4]
      exact q7
  -- fail, show
  have fsh : tyS t n p = 50 ∨ tyS t n p = 51 → B_X23_e_307 Z (d + 1) τ1 (Int32.ofNat p) K := by
    intro hty
    have hp : p < n := ty_pos (t := t) (by omega)
    have hg := nxS_gt (t := t) hp
    have epE : pEb t n env e pp (vsN t vs) p c = bnd (e (vsN t vs) (nxS t n p) (c + 1)) fun p1 c1 es1 a => .inr (p1, c1, cnE c p ++ es1, aN (if tyS t n p = 50 then 6 else 7) 0 0 a .nil .nil) := by
      unfold pEb
      rw [if_neg n42, if_neg n29, if_neg (by omega), if_neg n48, if_pos hty]
    refine S_X23_e_307 S1.fx (rs_counted (by omega) (by omega) S1 (fun τ2 S2 G2 => ⟨N, S2.md, ?_⟩))
    have H2 := H1.tr G2 (fun _ z => z.elim) (Nat.le_refl _)
    have go : ∀ opn : Nat, (if tyS t n p = 50 then 6 else 7) = opn → opn = 6 ∨ opn = 7 → B_X23_e_332 Z (d + 1) τ2 N (Int32.ofNat opn) K := by
      intro opn ho1 ho2
      rw [ho1] at epE
      refine S_X23_e_332 S2.fx ⟨S2.n22, ?_⟩
      refine rs_get (by omega) S2 (by omega) (fun τ4 lst4 cap4 v S4 G4 hv hN => Or.inl ⟨Rf.ptr v, rfl, ?_⟩)
      obtain ⟨q0, q1, q2, q3, q4, q5, q6, q7, q8, q9, q10, q11⟩ := hN
      have H4 := H2.tr G4 (fun j hj => by omega) (Nat.le_refl _)
      refine rs_next hZ (by omega) S4 hp (fun τ5 S5 G5 => ?_)
      have H5 := H4.tr G5 (fun _ z => z.elim) (Nat.le_refl _)
      obtain ⟨x1, x2, x3, x4⟩ := nd_keep S4 G5 hv (fun z => z)
      refine He d (by omega) τ5 _ _ vs _ (m + 1) lst4 cap4 _ _ S5 (by omega) (fun p10 c10 es10 b hf10 τ10 m10 lst10 cap10 r10 S10 G10 hm10 hp10 T10 hr10 => Or.inl ⟨r10, rfl, v, rfl, ?_⟩) (fun q hf10 τ10 x w => Or.inr ⟨_, rfl, h0 q (by rw [epE, hf10]; rfl) τ10 x (w.tr (m0 := m) H5 (fun _ z => z) (by omega) (Nat.le_refl _))⟩)
      have hv10 := G10.pre _ _ hv
      obtain ⟨w1, w2, w3, w4⟩ := nd_keep S5 G10 hv (by omega)
      obtain ⟨S11, G11⟩ := S10.nwr (k := 5) (x := r10) hv10
      refine ⟨w1, ?_⟩
      rw [List.append_assoc] at S11
      refine fin p10 c10 _ _ (by rw [epE, hf10]; rfl) (τ10.wr v 5 r10) m10 lst10 cap10 (Rf.ptr v) (S11.wk (by omega) (by omega)) ((H5.tr G10 (fun j hj => by omega) (Nat.le_refl _)).tr G11 (fun j hj => by omega) (Nat.le_refl _)) (by omega) (by omega) ?_ (by intro z; cases z)
      rw [TrN_aN]
      refine ⟨v, rfl, ⟨m, Nat.le_refl _, by omega, hv10⟩, w1, ⟨fun _ => ?_, fun z => by omega, fun z => by omega, fun z => by omega, fun z => by omega, fun z => by omega⟩, ?_, ?_, ?_⟩
      · show τ10.i v 0 = _
        rw [w2, x2]
        exact q0
      · rw [wr_at]
        exact (T10.fr S10 G11 (fun i i1 i2 i3 => by omega)).wk (by omega) (Nat.le_refl _)
      · rw [if_neg (by omega), wr_ne (by omega), w4, x4]
        exact q6
      · rw [wr_ne (by omega), w4, x4]
        exact q7
    refine rs_isw (y := 50) (by decide) hZ (by omega) S2 (fun h50 => ⟨fun z => absurd z (by decide), fun _ => go 6 (if_pos h50) (Or.inl rfl)⟩) (fun n50 => ⟨fun _ => go 7 (if_neg n50) (Or.inr rfl), fun z => absurd rfl z⟩)
  refine rs_isw (y := 50) (by decide) hZ (by omega) S1 (fun h50 => ⟨fun _ => fsh (Or.inl h50), fun z => absurd z (by decide)⟩) (fun n50 => ⟨fun z => absurd rfl z, fun _ => ?_⟩)
  refine rs_isw (y := 51) (by decide) hZ (by omega) S1 (fun h51 => ⟨fun z => absurd z (by decide), fun _ => fsh (Or.inr h51)⟩) (fun n51 => ⟨fun _ => ?_, fun z => absurd rfl z⟩)
  have epE : pEb t n env e pp (vsN t vs) p c = pCo t n env (pCh t n (pCh t n pp 11 12) 9 10) (vsN t vs) p c := by
    unfold pEb
    rw [if_neg n42, if_neg n29, if_neg (by omega), if_neg n48, if_neg (by omega)]
  refine Hc τ1 p c vs es m lst cap u _ S1 hu (fun p' c' es' x hf τ3 m3 lst3 cap3 r S3 G3 hm3 hp3 T3 hr => Or.inl ⟨r, rfl, ?_⟩) (fun q hf τ3 a w => Or.inr ⟨_, rfl, h0 q (by rw [epE]; exact hf) τ3 a (w.tr (m0 := m) H1 (fun _ z => z) (Nat.le_refl _) (Nat.le_refl _))⟩)
  exact fin p' c' es' x (by rw [epE]; exact hf) τ3 m3 lst3 cap3 r S3 (H1.tr G3 (fun _ z => z) (Nat.le_refl _)) hm3 hp3 T3 hr
/-- E and P are read as the document has them -/
theorem fol_X (hZ : ZK Z) (hw9 : env.2.2.2.2.2 ≠ 999) : ∀ (r o d : Nat), o + r = 12 → 20 + 4 * r ≤ d → Fol t n N env B (pX t n env r false) o (B_X23_e_0 Z d) ∧ Fol t n N env B (pX t n env r true) o (B_X23_p_0 Z d) := by
  intro r
  induction r with
  | zero =>
    intro o d ho hd
    obtain ⟨d, rfl⟩ : ∃ x, d = x + 1 := ⟨d - 1, by omega⟩
    refine ⟨fun σ p c vs es m lst cap u K S hu h1 h0 => ?_, fun σ p c vs es m lst cap u K S hu h1 h0 => ?_⟩
    · exact S_X23_e_0 S.fx (rs_into hZ (by omega) S (fun z => by omega) (fun _ τ a w => h0 p rfl τ a w))
    · exact S_X23_p_0 S.fx (rs_into hZ (by omega) S (fun z => by omega) (fun _ τ a w => h0 p rfl τ a w))
  | succ r ih =>
    intro o d ho hd
    have er : 11 - o = r := by omega
    have He : ∀ d', 20 + 4 * (11 - o) ≤ d' → Fol t n N env B (pX t n env r false) (o + 1) (B_X23_e_0 Z d') := fun d' hd' => (ih (o + 1) d' (by omega) (by omega)).1
    have Hp : ∀ d', 20 + 4 * (11 - o) ≤ d' → Fol t n N env B (pX t n env r true) (o + 1) (B_X23_p_0 Z d') := fun d' hd' => (ih (o + 1) d' (by omega) (by omega)).2
    refine ⟨?_, fol_p hZ hw9 (by omega) He Hp (by omega)⟩
    obtain ⟨d, rfl⟩ : ∃ x, d = x + 4 := ⟨d - 4, by omega⟩
    have C0 : Fol t n N env B (pCh t n (pX t n env r true) 11 12) (o + 1) (fun σ K => B_X23_chain_0 Z (d + 1) σ 0 K) := fol_chain (l1 := 0) (c1 := 42) (c2 := 47) hZ (by omega) (by decide) (by decide) (by decide) (by decide) (sb := B_X23_p_0 Z d) (fun σ K' h => ⟨fun _ => h, fun z => absurd rfl z⟩) (fun σ l2 l3 l4 K F w => S_X23_chain_22 F ⟨fun _ => w, fun z => absurd rfl z⟩) (Hp d (by omega))
    have C1 : Fol t n N env B (pCh t n (pCh t n (pX t n env r true) 11 12) 9 10) (o + 1) (fun σ K => B_X23_chain_0 Z (d + 2) σ 1 K) := fol_chain (l1 := 1) (c1 := 43) (c2 := 45) hZ (by omega) (by decide) (by decide) (by decide) (by decide) (sb := fun σ K => B_X23_chain_0 Z (d + 1) σ 0 K) (fun σ K' h => ⟨fun z => absurd z (by decide), fun _ => h⟩) (fun σ l2 l3 l4 K F w => S_X23_chain_22 F ⟨fun z => absurd z (by decide), fun _ => w⟩) C0
    exact fol_e (d := d + 3) hZ (by omega) He (fol_co (d := d + 2) hZ (by omega) C1) (by omega)
end EE

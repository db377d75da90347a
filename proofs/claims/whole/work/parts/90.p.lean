/-! THE REFERENCE'S READER: p() -/
section PP
variable {Z : zT} {d : Nat} {t : Nat → Int32} {n N : Nat} {env : Env} {B : Int32 × Int32} {o : Nat} {e pp : Pf}
theorem ty_dg (t : Nat → Int32) (n p : Nat) (h : tyS t n p = 3) : p < n ∧ ¬ isLet (t p) := by
  rcases ty_or t n p with q | q | q | q | ⟨_, _, _, q⟩ | ⟨_, _, _, _, q⟩
  · omega
  · omega
  · omega
  · exact q.2.2
  · rcases q with q | ⟨q, q1, q2, q3⟩
    · omega
    · have := (mkL2_c q q1).2.1
      omega
  · rcases q with q | ⟨q, q1, q2, q3⟩
    · omega
    · have := (wdL_c q q1).2.1
      omega
theorem pSg_le {t : Nat → Int32} {n p p' : Nat} {v : Int} (h : pSg t n p = .inr (v, p')) : p ≤ p' := by
  unfold pSg at h
  split at h
  · rename_i h1
    have g1 := nxS_gt (t := t) (n := n) (p := p) (ty_pos (t := t) (by omega))
    split at h
    · rename_i h2
      have g2 := nxS_gt (t := t) (n := n) (p := nxS t n p) (ty_pos (t := t) (by omega))
      cases h
      omega
    · cases h
  · split at h
    · rename_i h2
      have g2 := nxS_gt (t := t) (n := n) (p := p) (ty_pos (t := t) (by omega))
      cases h
      omega
    · cases h
theorem fol_p (hZ : ZK Z) (hw9 : env.2.2.2.2.2 ≠ 999) (ho : o < 12) (He : ∀ d', 20 + 4 * (11 - o) ≤ d' → Fol t n N env B e (o + 1) (B_X23_e_0 Z d')) (Hp : ∀ d', 20 + 4 * (11 - o) ≤ d' → Fol t n N env B pp (o + 1) (B_X23_p_0 Z d')) (hd : 24 + 4 * (11 - o) ≤ d) : Fol t n N env B (pPb t n env e pp) o (B_X23_p_0 Z d) := by
  intro σ p c vs es m lst cap u K S hu h1 h0
  obtain ⟨d, rfl⟩ : ∃ x, d = x + 1 := ⟨d - 1, by omega⟩
  have hvo := S.vo
  have hpn := S.pn
  obtain ⟨b1, b2, b3, b4, b5⟩ := S.bd
  have fin : ∀ p' c' es' x, pPb t n env e pp (vsN t vs) p c = .inr (p', c', es', x) → ∀ τ m' lst' cap' r, RS t n N env (B.1, B.2, Rf.ptr N) τ p' c' (o + 1) vs (es ++ es') m' lst' cap' u → RF N vs.length σ τ lst cap lst' cap' (fun i => m ≤ i) → m ≤ m' → p ≤ p' → TrN τ (Rg lst' m m') x r → r ≠ Rf.nul → K (.inl (some (rv r))) (τ.wi 0 20 (τ.i 0 20 - 1)) := by
    intro p' c' es' x hf τ m' lst' cap' r S' G' hm hp' T hr
    obtain ⟨S2, G2⟩ := S'.out hvo.1
    exact h1 p' c' es' x hf _ m' lst' cap' r S2 (G'.tr G2 (fun _ z => z.elim) (Nat.le_refl _)) hm hp' (T.fr S' G2 (fun _ _ _ z => z)) hr
  refine S_X23_p_0 S.fx (rs_into hZ (by omega) S (fun _ τ1 S1 G1 => ?_) (fun z => by omega))
  have e18 : τ1.i 0 18 = Int32.ofNat p := S1.cur.2.1
  dsimp only [yN]
  rw [e18]
  have H1 : RF N vs.length σ τ1 lst cap lst cap (fun i => m ≤ i) := G1.wk (fun _ z => z.elim) (Nat.le_refl _)
  -- a number
  have num : tyS t n p = 3 ∨ tyS t n p = 10 → B_X23_p_26 Z (d + 1) τ1 (Int32.ofNat p) K := by
    intro hty
    have epP : pPb t n env e pp (vsN t vs) p c = (match pSg t n p with
      | .inl q => .inl q
      | .inr (v, p1) => .inr (p1, c + 1, cnE c p, aN 11 v 0 .nil .nil .nil)) := by
      unfold pPb
      rw [if_pos hty]
      rfl
    refine S_X23_p_26 S1.fx (rs_counted (by omega) (by omega) S1 (fun τ2 S2 G2 => ⟨N, S2.md, S2.n22, ?_⟩))
    refine rs_get (by omega) S2 (by omega) (fun τ3 lst3 cap3 v S3 G3 hv hN => Or.inl ⟨Rf.ptr v, rfl, ?_⟩)
    obtain ⟨q0, q1, q2, q3, q4, q5, q6, q7, q8, q9, q10, q11⟩ := hN
    have H3 : RF N vs.length σ τ3 lst cap lst3 cap3 (fun i => m ≤ i) := (H1.tr G2 (fun _ z => z.elim) (Nat.le_refl _)).tr G3 (fun j hj => by omega) (Nat.le_refl _)
    refine rs_signed hZ (by omega) S3 (fun x p' hs τ4 S4 G4 => ⟨v, rfl, S4.ls.2.2.2.1 v (List.mem_of_getElem? hv), ?_⟩) (fun q hs τ4 a w => h0 q (by rw [epP, hs]) τ4 a (w.tr (m0 := m) H3 (fun _ z => z) (by omega) (Nat.le_refl _)))
    obtain ⟨z1, z2, z3, z4⟩ := nd_keep S3 G4 hv (fun z => z)
    obtain ⟨S5, G5⟩ := S4.nwi (k := 1) (x := Int32.ofInt x) hv
    refine fin p' (c + 1) (cnE c p) _ (by rw [epP, hs]) (τ4.wi v 1 (Int32.ofInt x)) (m + 1) lst3 cap3 (Rf.ptr v) (S5.wk (by omega) (by omega)) ((H3.tr G4 (fun _ z => z.elim) (Nat.le_refl _)).tr G5 (fun j hj => by omega) (Nat.le_refl _)) (by omega) (pSg_le hs) ?_ (by intro z; cases z)
    rw [TrN_aN]
    refine ⟨v, rfl, ⟨m, Nat.le_refl _, by omega, hv⟩, z1, ⟨fun _ => ?_, fun z => by omega, fun _ => wi_at _ _ _ _, fun z => by omega, fun z => by omega, fun z => by omega⟩, ?_, ?_, ?_⟩
    · rw [wi_ne (by omega), z2]
      exact q0
    · show τ4.r v 5 = _
      rw [z4]
      exact q5
    · rw [if_neg (by omega)]
      show τ4.r v 6 = _
      rw [z4]
      exact q6
    · show τ4.r v 7 = _
      rw [z4]
      exact q7
  refine ⟨fun z => num (Or.inl ((ty_lo (k := 3) (Or.inr rfl) S1.cur).mp z)), fun z3 => ?_⟩
  have n3 : tyS t n p ≠ 3 := fun z => z3 ((ty_lo (k := 3) (Or.inr rfl) S1.cur).mpr z)
  refine rs_is (y := 10) (by decide) (by omega) S1 (fun hy => ⟨fun z => absurd z (by decide), fun _ => num (Or.inr hy)⟩) (fun n10 => ⟨fun _ => ⟨fun z2 => ?_, fun z2 => ?_⟩, fun z => absurd rfl z⟩)
  · have n2 : tyS t n p ≠ 2 := fun z => z2 ((ty_lo (k := 2) (Or.inl rfl) S1.cur).mpr z)
    refine rs_skip (y := 52) (by decide) hZ (by omega) S1 (fun h52 τ2 S2 G2 => ⟨fun z => absurd z (by decide), fun _ => ?_⟩) (fun n52 => ⟨fun _ => ?_, fun z => absurd rfl z⟩)
    · -- next
      have hp : p < n := ty_pos (t := t) (by omega)
      have hg := nxS_gt (t := t) hp
      have epP : pPb t n env e pp (vsN t vs) p c = if tyS t n (nxS t n p) = 4 then pAN t n e (if 0 ≤ env.2.2.2.2.2 then env.2.2.2.2.1 env.2.2.2.2.2.toNat else 0) (vsN t vs) (nxS t n p) (c + 1) (cnE c p ++ (if env.2.2.2.2.2 = -1 then [(p, 3)] else [])) 15 0
          else .inr (nxS t n p, c + 1, cnE c p ++ (if env.2.2.2.2.2 = -1 then [(p, 3)] else []), aN 15 0 0 .nil .nil .nil) := by
        unfold pPb
        rw [if_neg (by omega), if_neg n2, if_pos h52]
      refine rs_counted (by omega) (by omega) S2 (fun τ3 S3 G3 => ⟨N, S3.md, S3.n22, ?_⟩)
      refine rs_get (by omega) S3 (by omega) (fun τ4 lst4 cap4 v S4 G4 hv hN => Or.inl ⟨Rf.ptr v, rfl, ?_⟩)
      obtain ⟨q0, q1, q2, q3, q4, q5, q6, q7, q8, q9, q10, q11⟩ := hN
      have H4 : RF N vs.length σ τ4 lst cap lst4 cap4 (fun i => m ≤ i) := ((H1.tr G2 (fun _ z => z.elim) (Nat.le_refl _)).tr G3 (fun _ z => z.elim) (Nat.le_refl _)).tr G4 (fun j hj => by omega) (Nat.le_refl _)
      obtain ⟨ks, cs, ls, -, ⟨k1, k2, k3, k4, k5⟩, -, w0⟩ := S4.en
      obtain ⟨w1, w2, w3⟩ := w0 hw9
      have go : ∀ (τ5 : Sg) (es5 : Evs), es5 = cnE c p ++ (if env.2.2.2.2.2 = -1 then [(p, 3)] else []) → RS t n N env (B.1, B.2, Rf.ptr N) τ5 (nxS t n p) (c + 1) (o + 1) vs (es ++ es5) (m + 1) lst4 cap4 (u - 2 + 1) → RF N vs.length τ4 τ5 lst4 cap4 lst4 cap4 (fun _ => False) → B_X23_p_112 Z (d + 1) τ5 (Rf.ptr v) K := by
        intro τ5 es5 he S5 G5
        obtain ⟨z1, z2, z3, z4⟩ := nd_keep S4 G5 hv (fun z => z)
        have H5 := H4.tr G5 (fun _ z => z.elim) (Nat.le_refl _)
        have e33 : τ5.i 0 33 = Int32.ofInt env.2.2.2.2.2 := by
          rw [G5.2.2.1 33 (by decide)]
          exact w1
        refine S_X23_p_112 S5.fx (rs_is (y := 4) (by decide) (by omega) S5 (fun h4 => ⟨fun z => absurd z (by decide), fun _ => ?_⟩) (fun n4 => ⟨fun _ => ?_, fun z => absurd rfl z⟩))
        · rw [if_pos h4] at epP
          have call : ∀ most K', most ≤ 3 → (if 0 ≤ env.2.2.2.2.2 then env.2.2.2.2.1 env.2.2.2.2.2.toNat else 0) = most → (∀ τ2, K (.inl (some (.ref v))) (τ2.wi 0 20 (τ2.i 0 20 - 1)) → K' (.inl none) τ2) → (∀ τ2 x, K (.inr x) τ2 → K' (.inr x) τ2) → B_X23_arguments_0 Z d τ5 (Rf.ptr v) (Int32.ofNat most) K' := by
            intro most K' hmo hm hk1 hk2
            rw [hm, ← he] at epP
            obtain ⟨d, rfl⟩ : ∃ x, d = x + 1 := ⟨d - 1, by omega⟩
            refine rs_argN (i := m) (val := 0) hZ (by omega) (He d (by omega)) hmo (Or.inr (Or.inr rfl)) S5 (by omega) h4 rfl hv (by rw [z2]; exact q0) (fun z => by omega) (by rw [z2]; exact q4) (by rw [z4]; exact q5) (by rw [z4]; exact q6) (by rw [z4]; exact q7) (fun p' c' es' x hpa τ6 m' lst6 cap6 S6 G6 hm6 hp6 T6 => hk1 _ ?_) (fun q hpa τ6 a w => hk2 _ _ ?_)
            · exact fin p' c' es' x (by rw [epP, hpa]) τ6 m' lst6 cap6 (Rf.ptr v) (S6.wk (by omega) (by omega)) (H5.tr G6 (fun _ z => z) (Nat.le_refl _)) (by omega) (by omega) T6 (by intro z; cases z)
            · exact h0 q (by rw [epP, hpa]) τ6 a (w.tr (m0 := m) H5 (fun _ z => z) (Nat.le_refl _) (Nat.le_refl _))
          rw [e33]
          by_cases hw : 0 ≤ env.2.2.2.2.2
          · obtain ⟨x, hx⟩ : ∃ x : Nat, env.2.2.2.2.2 = (x : Int) := ⟨env.2.2.2.2.2.toNat, by omega⟩
            have hx24 : x < cs.length := by omega
            obtain ⟨y1, y2, y3⟩ := k5 x hx24
            rw [hx]
            refine ⟨fun z => ?_, fun _ => ⟨ib_oN (k := x) (by omega) (by decide), ?_⟩⟩
            · have := (oN_lt (a := x) (b := 0) (by omega) (by omega)).mp z
              omega
            · rw [show (Int32.ofInt (x : Int)).toNatClampNeg = x from oN_t (by omega), rf_lo S4 G5 (by omega) (by omega) (by omega), y3]
              exact call _ _ y2 (by rw [if_pos hw, hx]; rfl) (fun _ y => y) (fun _ _ y => y)
          · refine ⟨fun _ => call 0 _ (by decide) (if_neg hw) (fun _ y => y) (fun _ _ y => y), fun z => absurd ?_ z⟩
            have : env.2.2.2.2.2 = -1 ∨ env.2.2.2.2.2 = -2 := by omega
            rcases this with y | y <;> rw [y] <;> decide
        · rw [if_neg n4, ← he] at epP
          refine fin _ _ _ _ epP τ5 (m + 1) lst4 cap4 (Rf.ptr v) (S5.wk (by omega) (by omega)) H5 (by omega) (by omega) ?_ (by intro z; cases z)
          rw [TrN_aN]
          refine ⟨v, rfl, ⟨m, Nat.le_refl _, by omega, hv⟩, z1, ⟨fun _ => by rw [z2]; exact q0, fun z => by omega, fun z => by omega, fun z => by omega, fun _ => by rw [z2]; exact q4, fun z => by omega⟩, ?_, ?_, ?_⟩
          · rw [z4]
            exact q5
          · rw [if_neg (by omega), z4]
            exact q6
          · rw [z4]
            exact q7
      have hm1 : τ4.i 0 33 = -1 ↔ env.2.2.2.2.2 = -1 := by
        rw [w1]
        constructor
        · intro z
          have z2 := congrArg Int32.toInt z
          rw [Int32.toInt_ofInt_of_le (by omega) (by omega)] at z2
          exact z2
        · intro z
          rw [z]
          rfl
      refine ⟨fun z => ?_, fun z => ?_⟩
      · refine go τ4 _ rfl ?_ (RF.refl _ _ _ _ _ _)
        rw [if_neg (fun y => z (hm1.mpr y)), List.append_nil]
        exact S4
      · refine rs_breaks (r := 3) (by omega) (by omega) (by decide) S4 (fun τ5 S5 G5 => go τ5 _ rfl ?_ G5)
        rw [if_pos (hm1.mp z), ← List.append_assoc]
        exact S5
    · refine rs_is (y := 13) (by decide) (by omega) S1 (fun h13 => ⟨fun z => absurd z (by decide), fun _ => ?_⟩) (fun n13 => ⟨fun _ => ?_, fun z => absurd rfl z⟩)
      · -- #
        have hp : p < n := ty_pos (t := t) (by omega)
        have hg := nxS_gt (t := t) hp
        have epP : pPb t n env e pp (vsN t vs) p c = bnd (pp (vsN t vs) (nxS t n p) (c + 1)) fun p1 c1 es1 a => .inr (p1, c1, cnE c p ++ es1, aN 16 0 0 a .nil .nil) := by
          unfold pPb
          rw [if_neg (by omega), if_neg n2, if_neg n52, if_pos h13]
        refine rs_counted (by omega) (by omega) S1 (fun τ2 S2 G2 => rs_next hZ (by omega) S2 hp (fun τ3 S3 G3 => ⟨N, S3.md, S3.n22, ?_⟩))
        refine rs_get (by omega) S3 (by omega) (fun τ4 lst4 cap4 v S4 G4 hv hN => Or.inl ⟨Rf.ptr v, rfl, ?_⟩)
        obtain ⟨q0, q1, q2, q3, q4, q5, q6, q7, q8, q9, q10, q11⟩ := hN
        have H4 : RF N vs.length σ τ4 lst cap lst4 cap4 (fun i => m ≤ i) := ((H1.tr G2 (fun _ z => z.elim) (Nat.le_refl _)).tr G3 (fun _ z => z.elim) (Nat.le_refl _)).tr G4 (fun j hj => by omega) (Nat.le_refl _)
        refine Hp d (by omega) τ4 _ _ vs _ (m + 1) lst4 cap4 _ _ S4 (by omega) (fun p' c' es' x hf τ5 m5 lst5 cap5 r S5 G5 hm5 hp5 T5 hr => Or.inl ⟨r, rfl, v, rfl, ?_⟩) (fun q hf τ5 a w => Or.inr ⟨_, rfl, h0 q (by rw [epP, hf]; rfl) τ5 a (w.tr (m0 := m) H4 (fun _ z => z) (by omega) (Nat.le_refl _))⟩)
        obtain ⟨z1, z2, z3, z4⟩ := nd_keep S4 G5 hv (by omega)
        have hv5 := G5.pre m v hv
        obtain ⟨S6, G6⟩ := S5.nwr (k := 5) (x := r) hv5
        refine ⟨z1, ?_⟩
        rw [List.append_assoc] at S6
        refine fin p' c' (cnE c p ++ es') _ (by rw [epP, hf]; rfl) (τ5.wr v 5 r) m5 lst5 cap5 (Rf.ptr v) (S6.wk (by omega) (by omega)) ((H4.tr G5 (fun j hj => by omega) (Nat.le_refl _)).tr G6 (fun j hj => by omega) (Nat.le_refl _)) (by omega) (by omega) ?_ (by intro z; cases z)
        rw [TrN_aN]
        refine ⟨v, rfl, ⟨m, Nat.le_refl _, by omega, hv5⟩, z1, ⟨fun _ => ?_, fun z => by omega, fun z => by omega, fun z => by omega, fun z => by omega, fun z => by omega⟩, ?_, ?_, ?_⟩
        · show τ5.i v 0 = _
          rw [z2]
          exact q0
        · rw [wr_at]
          exact (T5.fr S5 G6 (fun j j1 j2 j3 => by omega)).wk (by omega) (Nat.le_refl _)
        · rw [if_neg (by omega), wr_ne (by omega), z4]
          exact q6
        · rw [wr_ne (by omega), z4]
          exact q7
      · -- ( E )
        have epP : pPb t n env e pp (vsN t vs) p c = if tyS t n p = 4 then bnd (e (vsN t vs) (nxS t n p) c) fun p1 c1 es1 a => if tyS t n p1 = 5 then .inr (nxS t n p1, c1, es1, a) else .inl p1 else .inl p := by
          unfold pPb
          rw [if_neg (by omega), if_neg n2, if_neg n52, if_neg n13]
        refine rs_want (y := 4) (by decide) hZ (by omega) S1 (fun h4 τ2 S2 G2 => ?_) (fun n4 τ2 a w => h0 p (by rw [epP, if_neg n4]) τ2 a (w.tr (m0 := m) H1 (fun _ z => z) (Nat.le_refl _) (Nat.le_refl _)))
        rw [if_pos h4] at epP
        have hp : p < n := ty_pos (t := t) (by omega)
        have hg := nxS_gt (t := t) hp
        have H2 := H1.tr G2 (fun _ z => z.elim) (Nat.le_refl _)
        refine He d (by omega) τ2 _ _ vs _ m lst cap _ _ S2 (by omega) (fun p' c' es' x hf τ3 m3 lst3 cap3 r S3 G3 hm3 hp3 T3 hr => Or.inl ⟨r, rfl, ?_⟩) (fun q hf τ3 a w => Or.inr ⟨_, rfl, h0 q (by rw [epP, hf]; rfl) τ3 a (w.tr (m0 := m) H2 (fun _ z => z) (Nat.le_refl _) (Nat.le_refl _))⟩)
        have H3 := H2.tr G3 (fun _ z => z) (Nat.le_refl _)
        have epQ : pPb t n env e pp (vsN t vs) p c = if tyS t n p' = 5 then .inr (nxS t n p', c', es', x) else .inl p' := by
          rw [epP, hf]
          rfl
        refine rs_want (y := 5) (by decide) hZ (by omega) S3 (fun h5 τ4 S4 G4 => ?_) (fun n5 τ4 a w => h0 p' (by rw [epQ, if_neg n5]) τ4 a (w.tr (m0 := m) H3 (fun _ z => z) hm3 (Nat.le_refl _)))
        have hg5 := nxS_gt (t := t) (n := n) (p := p') (ty_pos (t := t) (by omega))
        exact fin _ c' es' x (by rw [epQ, if_pos h5]) τ4 m3 lst3 cap3 r (S4.wk (by omega) (by omega)) (H3.tr G4 (fun _ z => z.elim) (Nat.le_refl _)) hm3 (by omega) (T3.fr S3 G4 (fun _ _ _ z => z)) hr
  · -- a name
    have hty : tyS t n p = 2 := (ty_lo (k := 2) (Or.inl rfl) S1.cur).mp z2
    refine rs_counted (by omega) (by omega) S1 (fun τ2 S2 G2 => ?_)
    have H2 := H1.tr G2 (fun _ z => z.elim) (Nat.le_refl _)
    obtain ⟨d, rfl⟩ : ∃ x, d = x + 1 := ⟨d - 1, by omega⟩
    refine rs_named hZ (by omega) (He (d - 1) (by omega)) S2 hu hty (pPb t n env e pp (vsN t vs) p c) (by unfold pPb; rw [if_neg (by omega), if_pos hty]; rfl) (fun p' c' es' x hf τ3 m3 lst3 cap3 r S3 G3 hm3 hp3 T3 hr => Or.inl ⟨r, rfl, ?_⟩) (fun q hf τ3 a w => Or.inr ⟨_, rfl, h0 q hf τ3 a (w.tr (m0 := m) H2 (fun _ z => z) (Nat.le_refl _) (Nat.le_refl _))⟩)
    exact fin p' c' es' x hf τ3 m3 lst3 cap3 r S3 (H2.tr G3 (fun _ z => z) (Nat.le_refl _)) hm3 hp3 T3 hr
end PP

/-! THE CLASS: a text read, the loop -/
theorem HE.ls {R : HR} {p : Nat} {es : Evs} (h : HE R (.inr (p, es))) : ∃ Ec, R = .inr (p, Ec) ∧ lsE Ec = lsE es := by
  rcases R with q | ⟨p', Ec⟩
  · cases h
  · obtain ⟨h1, h2⟩ := h
    subst h1
    exact ⟨Ec, rfl, h2⟩
theorem HE.dd {R : HR} {q : Nat} (h : HE R (.inl q)) : R = .inl q := by
  rcases R with q' | ⟨p', Ec⟩
  · have h : q' = q := h
    rw [h]
  · cases h
section TX3
variable {Z : zT} {d : Nat} {t : Nat → Int32} {n N : Nat} {B : Nat × Nat × Nat × Nat × Nat} {C : Nat × Nat × Nat × Nat} {W : Wld} {σ τ υ : Sg} {K : kS} {vs : List (List Int32)}
/-- the loop's head: dead -/
theorem t22_d {q : Nat} {l3 : Int32} (hB : HB t n N B C W σ) (h : BdS t n N vs (.inl q) σ) (k : C_X7_readText_127 Z (d + 1) σ K) : C_X7_readText_22 Z (d + 1) σ l3 K := by
  have h4 := h.1.2.1
  have hq := h.1.2.2
  have nn := hB.2.2.2.1.1
  refine T_X7_readText_22 hB.1 ⟨fun _ => k, fun _ => ⟨fun _ => k, fun z => absurd ?_ z⟩⟩
  rw [h4, show (0 : Int32) = Int32.ofNat 0 from rfl, oN_le (by decide) (by omega)]
  exact Nat.zero_le _
/-- live -/
theorem t22_l {p j i : Nat} {es : Evs} (hB : HB t n N B C W σ) (h : BdS t n N vs (.inr (p, es)) σ) (hi : σ.i 40 3 = Int32.ofNat i) (hiN : i ≤ N) (hip : sgP t n i = p) (hj : 0 < j ∧ j ≤ i) (k0 : tyS t n p = 0 → C_X7_readText_127 Z (d + 2) σ K) (k1 : ¬ tyS t n p = 0 → C_X7_readText_51 Z (d + 2) σ (Int32.ofNat j) K) : C_X7_readText_22 Z (d + 2) σ (Int32.ofNat j) K := by
  have tb : tyS t n p ≤ 52 := ty_b
  have hB' := hB
  obtain ⟨fx, sa, ss, ⟨nn, hN1⟩, -⟩ := hB'
  have hcc := sa.2.2.2.2.2.2.2.2.2
  refine T_X7_readText_22 fx ?_
  rw [ss.1, oN_le (by omega) (by omega), h.1.2, show (0 : Int32) = Int32.ofNat 0 from rfl, oN_eq (by omega) (by decide)]
  refine ⟨fun z => absurd z (by omega), fun _ => ⟨fun z => absurd z (by decide), fun _ => ⟨fun z => absurd z (by omega), fun _ => h_sign hB h ?_⟩⟩⟩
  show (Int32.ofNat (tyS t n p) = Int32.ofNat 0 → _) ∧ (¬ Int32.ofNat (tyS t n p) = Int32.ofNat 0 → _)
  rw [oN_eq (by omega) (by decide)]
  exact ⟨k0, k1⟩
/-- all declarations; p0, A0: where the text and its code begin -/
theorem tx_all {σ0 : Sg} {C0 : Nat × Nat × Nat × Nat} {W0 : Wld} {p0 A0 : Nat} (hd : 211 ≤ d) (hA0 : A0 ≤ 109022) : ∀ f p W Wp C a vs es σ j i, n + 1 - p ≤ f → CWS t n N B C W a σ → PfW W0 W → TxF W0.2.2.2.length C0 C σ0 σ → BdS t n N vs (.inr (p, es)) σ → σ.i 40 3 = Int32.ofNat i → i ≤ N → sgP t n i = p → j ≤ i → p0 ≤ p → 12 * a + 901 * p0 ≤ 12 * A0 + 901 * p → (∀ v, lsE es = some v → v.1 < p) → (es = [] → Wp = W) → (es = [] → a ≤ 902 + 901 * W.2.2.2.length) →
    (∀ τ C' a' W' vs' q, pTx t n f Wp p = .inl q → CWS t n N B C' W' a' τ → PfW W0 W' → TxF W0.2.2.2.length C0 C' σ0 τ → BdS t n N vs' (.inl q) τ → C_X7_readText_127 Z (d + 1) τ K) →
    (∀ τ C' a' W' vs' p2 Ec es2 W2, pTx t n f Wp p = .inr (p2, es2, W2) → CWS t n N B C' W' a' τ → PfW W0 W' → TxF W0.2.2.2.length C0 C' σ0 τ → BdS t n N vs' (.inr (p2, Ec)) τ → (es = [] → lsE Ec = lsE es2 ∧ (es2 = [] → W' = W2 ∧ a' ≤ 902 + 901 * W'.2.2.2.length)) → (es ≠ [] → lsE Ec = lsE es) → C_X7_readText_127 Z (d + 1) τ K) → C_X7_readText_51 Z (d + 1) σ (Int32.ofNat j) K := by
  obtain ⟨e0, rfl⟩ : ∃ e, d = e + 1 := ⟨d - 1, by omega⟩
  intro f
  induction f with
  | zero =>
    intro p W Wp C a vs es σ j i hf S hPf g h hi hiN hip
    have hp : p ≤ n := by
      rw [← hip]
      exact sgP_le t n i
    omega
  | succ f ih =>
    intro p W Wp C a vs es σ j i hf S hPf g h hi hiN hip hj hp0 hA hes hWp haW kd kl
    have hp : p ≤ n := by
      rw [← hip]
      exact sgP_le t n i
    have hB := S.1
    have nn := hB.2.2.2.1.1
    have hN1 := hB.2.2.1.2.2.2
    have tb : tyS t n p ≤ 52 := ty_b
    rw [pTx] at kd kl
    by_cases hy : tyS t n p = 20 ∨ tyS t n p = 22 ∨ tyS t n p = 23 ∨ tyS t n p = 24
    · refine tx_one (d := e0 + 1) (by omega) S h hes (by omega) hy (fun τ C' a' vs' R' he S' b' g' ha => ?_)
      have hB' := S'.1
      have gA := g.tr g' hPf.2.2.2.length_le
      have pfA : PfW W0 (nxW t n W (.inr (p, es))) := hPf.tr (nx_pf (t := t) (n := n) (W := W) (.inr (p, es))).1
      rw [oN_1]
      rcases ps_or (sy_de (t := t) (n := n) W Wp p) with ⟨q, r1, r2⟩ | ⟨p', ⟨e1, W1⟩, ⟨e1p, W1p⟩, r1, r2⟩
      · rw [hDe_in r1] at he
        rw [he.dd] at b'
        rw [r2] at kd
        exact t22_d hB' b' (kd τ C' a' _ vs' q rfl S' pfA gA b')
      · rw [hDe_ir r1] at he
        obtain ⟨Ec, eR, eL⟩ := he.ls
        subst eR
        obtain ⟨lt', in'⟩ := ev_de r1
        rw [r2] at kd kl
        dsimp only at kd kl
        obtain ⟨i', i1', i2', -, i4'⟩ := b'.pos hB'
        have i4' := i4' _ _ rfl
        have ltI := sg_idx (t := t) (n := n) (i := i) (i' := i') (by omega)
        have hA' : 12 * a' + 901 * p0 ≤ 12 * A0 + 901 * p' := by
          rcases ha with ha | ⟨ha1, ha2⟩
          · omega
          · have := me_pr ha1 r1
            omega
        -- what is broken now, before p'
        have hes' : ∀ v, lsE Ec = some v → v.1 < p' := fun v hv => by
          rw [eL] at hv
          rcases List.mem_append.mp (lsE_mem _ v hv) with m | m
          · obtain ⟨u, u1, u2⟩ := lsE_le _ es rfl v m
            obtain ⟨v', w1, w2⟩ := lsE_le _ (es ++ e1) rfl u (List.mem_append_left _ (lsE_mem es u u1))
            rw [hv] at w1
            have := Option.some.inj w1
            subst this
            have := hes u u1
            omega
          · exact (in' v m).2
        have keepB : es ≠ [] → lsE Ec = lsE es := fun ne => by
          obtain ⟨v, hv⟩ := lsE_some ne
          rw [eL, lsE_later hv (fun e he => by have := in' e he; have := hes v hv; omega), hv]
        have ecB : es ≠ [] → Ec ≠ [] := fun ne q => by
          obtain ⟨v, hv⟩ := lsE_some ne
          have := keepB ne
          rw [q, hv] at this
          cases this
        have sameA : es = [] → e1p = e1 ∧ W1p = W1 ∧ lsE Ec = lsE e1 := fun q => by
          have hw := hWp q
          rw [hw] at r2
          rw [r1] at r2
          have r2 := congrArg Prod.snd (Sum.inr.inj r2)
          refine ⟨(congrArg Prod.fst r2).symm, (congrArg Prod.snd r2).symm, ?_⟩
          rw [eL, q]
          rfl
        have nxA : es = [] → e1 = [] → nxW t n W (.inr (p, es)) = W1 := fun q1 q2 => by
          subst q1 q2
          exact nxW_some r1
        have aA : es = [] → e1 = [] → a' ≤ 902 + 901 * (nxW t n W (.inr (p, es))).2.2.2.length := fun q1 q2 => by
          have b1 := haW q1
          have b2 := (nx_pf (t := t) (n := n) (W := W) (.inr (p, es))).1.2.2.2.length_le
          rcases ha with ha | ⟨ha1, ha2⟩
          · omega
          · subst q1 q2
            have b3 := me_ad ha1 S.2.2.2.1.2.1 r1
            have b4 := nxW_some r1
            rw [b4]
            omega
        refine t22_l hB' b' i2' i1' i4' ⟨by omega, by omega⟩ (fun z => ?_) (fun z => ?_)
        · rw [if_pos z] at kl
          refine kl τ C' a' _ vs' p' Ec e1p W1p rfl S' pfA gA b' (fun q => ?_) keepB
          obtain ⟨q1, q2, q3⟩ := sameA q
          rw [q1, q2]
          exact ⟨q3, fun y => ⟨nxA q y, aA q y⟩⟩
        · rw [if_neg z] at kd kl
          refine ih p' (nxW t n W (.inr (p, es))) W1p C' a' vs' Ec τ (j + 1) i' (by omega) S' pfA gA b' i2' i1' i4' (by omega) (by omega) hA' hes' (fun q => ?_) (fun q => ?_) (fun τ2 C2 a2 W2' vs2 q h1 h2 h3 h4 h5 => kd τ2 C2 a2 W2' vs2 q (by rw [h1]) h2 h3 h4 h5) (fun τ2 C2 a2 W2' vs2 p2 Ec2 es2 W2 h1 h2 h3 h4 h5 h6 h7 => kl τ2 C2 a2 W2' vs2 p2 Ec2 _ W2 (by rw [h1]) h2 h3 h4 h5 (fun q => ?_) (fun ne => ?_))
          · by_cases qe : es = []
            · obtain ⟨q1, q2, q3⟩ := sameA qe
              have e1n : e1 = [] := by
                rw [q] at q3
                exact lsE_nil q3.symm
              rw [q2]
              exact (nxA qe e1n).symm
            · exact absurd q (ecB qe)
          · by_cases qe : es = []
            · obtain ⟨q1, q2, q3⟩ := sameA qe
              have e1n : e1 = [] := by
                rw [q] at q3
                exact lsE_nil q3.symm
              exact aA qe e1n
            · exact absurd q (ecB qe)
          · obtain ⟨q1, q2, q3⟩ := sameA q
            by_cases qe : e1p = []
            · rw [if_pos qe]
              have : Ec = [] := by
                rw [← q1, qe] at q3
                exact lsE_nil q3
              exact h6 this
            · rw [if_neg qe]
              have ne : Ec ≠ [] := fun y => by
                rw [y] at q3
                exact qe (q1.trans (lsE_nil q3.symm))
              exact ⟨(h7 ne).trans (q3.trans (by rw [q1])), fun y => absurd y qe⟩
          · rw [h7 (ecB ne)]
            exact keepB ne
    · -- nothing that can begin a declaration
      have ed : pDe t n Wp p = .inl p := by
        unfold pDe
        rw [if_neg (by omega), if_neg (by omega), if_neg (by omega), if_neg (by omega)]
      rw [ed] at kd
      refine T_X7_readText_51 hB.1 (h_sign hB h ?_)
      show (Int32.ofNat (tyS t n p) = Int32.ofNat 20 → _) ∧ (Int32.ofNat (tyS t n p) = Int32.ofNat 22 → _) ∧ (Int32.ofNat (tyS t n p) = Int32.ofNat 23 → _) ∧ (Int32.ofNat (tyS t n p) = Int32.ofNat 24 → _) ∧ (¬ Int32.ofNat (tyS t n p) = Int32.ofNat 20 → ¬ Int32.ofNat (tyS t n p) = Int32.ofNat 22 → ¬ Int32.ofNat (tyS t n p) = Int32.ofNat 23 → ¬ Int32.ofNat (tyS t n p) = Int32.ofNat 24 → _)
      rw [oN_eq (by omega) (by decide), oN_eq (by omega) (by decide), oN_eq (by omega) (by decide), oN_eq (by omega) (by decide)]
      refine ⟨fun z => absurd (Or.inl z) hy, fun z => absurd (Or.inr (Or.inl z)) hy, fun z => absurd (Or.inr (Or.inr (Or.inl z))) hy, fun z => absurd (Or.inr (Or.inr (Or.inr z))) hy, fun _ _ _ _ => h_never hB h (fun τ f1 b1 => ?_)⟩
      have hB1 := hB.hd f1
      have l24 := hB.2.2.2.2.2.2.1.2.1
      have hCo := hB.2.2.2.2.1
      obtain ⟨-, -, -, -, y0, y1, y2, -⟩ := hCo
      refine t22_d hB1 b1 (kd τ C a W vs p rfl ⟨hB1, S.2.1.hk l24 f1.k, S.2.2.1.keep (fun k _ => ⟨f1.2.2.1 32 k (by omega) (by omega), f1.2.2.1 33 k (by omega) (by omega)⟩), ?_, S.2.2.2.2⟩ hPf (g.tr (v := W0.2.2.2.length) ⟨f1.dc C, RmC.eq f1.1, fun a j q1 q2 => f1.2.2.1 a j (by omega) (by omega), fun j _ => f1.2.2.1 14 j (by omega) (by omega), CdK.ke (fun a j q => f1.2.2.1 a j (by omega) (by omega))⟩ (Nat.le_refl _)) b1)
      exact S.2.2.2.1.md (f1.md _) ⟨y0, y1, y2⟩
end TX3

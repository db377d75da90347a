/-! THE CLASS: a method, whole -/
theorem eqb_in {p q a b : Nat} {E F : Evs} (h : ∀ v, lsE E = some v → v.1 < p) (hF : In a b F) (h1 : p ≤ q) (h2 : b ≤ q) : EqB q (E ++ F) (E ++ F) := by
  by_cases y : E ++ F = []
  · exact Or.inl ⟨y, y⟩
  · obtain ⟨v, hv⟩ := lsE_some y
    refine Or.inr ⟨v, hv, hv, ?_⟩
    rcases List.mem_append.mp (lsE_mem _ v hv) with m | m
    · obtain ⟨u, u1, u2⟩ := lsE_le _ E rfl v m
      obtain ⟨v', w1, w2⟩ := lsE_le _ (E ++ F) rfl u (List.mem_append_left _ (lsE_mem E u u1))
      rw [hv] at w1
      have := Option.some.inj w1
      subst this
      have := h u u1
      omega
    · have := hF v m
      omega
section MT7
variable {Z : zT} {d : Nat} {t : Nat → Int32} {n N : Nat} {B : Nat × Nat × Nat × Nat × Nat} {C : Nat × Nat × Nat × Nat} {W : Wld} {σ τ υ : Sg} {K : kS} {vs V : List (List Int32)} {R : HR}
theorem cl_methW {p a0 : Nat} {es : Evs} (hd : 200 ≤ d) (hy : tyS t n p = 24) (hes : ∀ v, lsE es = some v → v.1 < p) (hB : HB t n N B C W σ) (hWf : WfW W) (M : WMc C a0 W.2.2.2 σ) (hat : a0 + 902 ≤ 923648) (h : BdS t n N vs (.inr (p, es)) σ) (k : ∀ τ C' a1 vs' R', HE R' (hDe t n W (.inr (p, es))) → HB t n N B C' (nxW t n W (.inr (p, es))) τ → WMc C' a1 (nxW t n W (.inr (p, es))).2.2.2 τ → ((nxW t n W (.inr (p, es))).1 = W.1 ∧ (nxW t n W (.inr (p, es))).2.1 = W.2.1) → a1 ≤ a0 + 901 → BdS t n N vs' R' τ → GfM W.2.2.2.length C C' σ τ → K (.inl none) τ) : C_X7_readMethod_0 Z (d + 1) σ K := by
  obtain ⟨e0, rfl⟩ : ∃ e, d = e + 2 := ⟨d - 2, by omega⟩
  have l120 := M.2.1
  have l24 := hB.2.2.2.2.2.2.2.1.2.1
  have hCo := hB.2.2.2.2.1
  obtain ⟨-, -, -, -, y0, y1, y2, -⟩ := hCo
  have hxp := nx_le (t := t) (n := n) (p := p) (by omega)
  -- a wrong one leaves the world
  have keepW : clI (hDe t n W (.inr (p, es))) = 0 → ∀ τ C' a1 vs' R', HE R' (hDe t n W (.inr (p, es))) → HB t n N B C' W τ → WMc C' a1 W.2.2.2 τ → a1 ≤ a0 + 901 → BdS t n N vs' R' τ → GfM W.2.2.2.length C C' σ τ → K (.inl none) τ := fun z τ C' a1 vs' R' k1 k2 k3 k4 k5 k6 => by
    refine k τ C' a1 vs' R' k1 ?_ ?_ ?_ k4 k5 k6
    · rw [nxW_0 z]
      exact k2
    · rw [nxW_0 z]
      exact k3
    · rw [nxW_0 z]
      exact ⟨rfl, rfl⟩
  refine T_X7_readMethod_0 hB.1 (h_take (y := 24) (by decide) hB h (fun τ1 f1 b1 => ?_))
  have e1 : htk t n 24 (.inr (p, es)) = .inr (nxS t n p, es) := if_pos hy
  rw [e1] at b1
  have hB1 := hB.hd f1
  obtain ⟨i, i1, i2, -, i4⟩ := b1.pos hB1
  have i5 := i4 _ _ rfl
  refine h_call (w := -1) hB1 b1 (fun τ3 v v1 v2 hv f3 b3 => ?_)
  have f13 : HdF σ τ3 := f1.tr f3
  have hB3 := hB.hd f13
  have e10 : τ3.i 10 0 = Int32.ofNat W.2.2.2.length := (f13.2.2.1 10 0 (by omega) (by omega)).trans M.1
  have pMt1 : pDe t n W p = mtD t n W (nxS t n p) (pMt t n (enW W.1 W.2.1 W.2.2.1 (-1)) W.2.2.2.length (nxS t n p)) := pDe_24 hy
  have m1 : (σ.i 10 0) + (1 : Int32) = Int32.ofNat (W.2.2.2.length + 1) := by rw [M.1, oN_1]
  have mdf : MdF (W.2.2.2.length + 1) σ ((τ3.wi 40 8 (Int32.ofInt v)).wi 40 7 1) := ((f13.md _).tr (MdF.wi (Or.inl ⟨rfl, by decide⟩))).tr (MdF.wi (Or.inl ⟨rfl, by decide⟩))
  have hB4 := hB.md mdf y0
  have b4 : BdS t n N vs (hkn t n (enW W.1 W.2.1 W.2.2.1 (-1)).2.1 (.inr (nxS t n p, es))) ((τ3.wi 40 8 (Int32.ofInt v)).wi 40 7 1) := (b3.w40 (by decide)).w40 (by decide)
  -- from the opening on
  have go : ∀ (τ5 : Sg) (R3 : HR), HdF ((τ3.wi 40 8 (Int32.ofInt v)).wi 40 7 1) τ5 → R3 = hev (if W.2.2.2.length = 120 then [(nxS t n p, 7)] else []) (hkn t n (enW W.1 W.2.1 W.2.2.1 (-1)).2.1 (.inr (nxS t n p, es))) → BdS t n N vs R3 τ5 → C_X7_readMethod_56 Z (e0 + 3) τ5 (Int32.ofNat (W.2.2.2.length + 1)) (Int32.ofNat i) K := fun τ5 R3 f5 eR b5 => by
    have mdA : MdF (W.2.2.2.length + 1) σ τ5 := mdf.tr (f5.md _)
    have hB5 := hB.md mdA y0
    have o7 : τ5.i 40 7 = 1 := (f5.2.2.1 40 7 (by omega) (by omega)).trans wi_eq
    have o8 : τ5.i 40 8 = Int32.ofInt v := (f5.2.2.1 40 8 (by omega) (by omega)).trans ((wi_ne (by omega)).trans wi_eq)
    by_cases z2 : tyS t n (nxS t n p) = 2
    · have hx1 := nx_le (t := t) (n := n) (p := nxS t n p) (by omega)
      have hv := hv _ _ rfl z2
      have eR3 : R3 = .inr (nxS t n (nxS t n p), es ++ mtE t n (enW W.1 W.2.1 W.2.2.1 (-1)) W.2.2.2.length (nxS t n p)) := by
        rw [eR]
        have : hkn t n (enW W.1 W.2.1 W.2.2.1 (-1)).2.1 (.inr (nxS t n p, es)) = .inr (nxS t n (nxS t n p), es ++ (if (enW W.1 W.2.1 W.2.2.1 (-1)).2.1 (nmS t n (nxS t n p)) = none then [(nxS t n p, 3)] else [])) := if_pos z2
        rw [this]
        show Sum.inr (nxS t n (nxS t n p), es ++ _ ++ _) = _
        rw [List.append_assoc]
        rfl
      have ew : (if 0 ≤ v then plW W.2.1 v.toNat else 0) = plO (enW W.1 W.2.1 W.2.2.1 (-1)) ((enW W.1 W.2.1 W.2.2.1 (-1)).2.1 (nmS t n (nxS t n p))) ∧ (if 0 ≤ v then v else -2) = wiO ((enW W.1 W.2.1 W.2.2.1 (-1)).2.1 (nmS t n (nxS t n p))) ∧ v = idx ((enW W.1 W.2.1 W.2.2.1 (-1)).2.1 (nmS t n (nxS t n p))) := by
        cases hc : (enW W.1 W.2.1 W.2.2.1 (-1)).2.1 (nmS t n (nxS t n p)) with
        | none =>
          rw [hc] at hv
          have hv : v = -1 := hv
          subst hv
          exact ⟨rfl, rfl, rfl⟩
        | some j =>
          rw [hc] at hv
          have hv : v = (j : Int) := hv
          subst hv
          rw [if_pos (Int.natCast_nonneg j), if_pos (Int.natCast_nonneg j), plO_W]
          exact ⟨rfl, rfl, rfl⟩
      have inE : In (nxS t n p) (nxS t n (nxS t n p)) (mtE t n (enW W.1 W.2.1 W.2.2.1 (-1)) W.2.2.2.length (nxS t n p)) := in_app (in_ife (Nat.le_refl _) hx1) (in_ife (Nat.le_refl _) hx1)
      have mt := mt_eq (t := t) (n := n) (env := enW W.1 W.2.1 W.2.2.1 (-1)) (mn := W.2.2.2.length) (p := nxS t n p)
      rw [if_pos z2] at mt
      refine md_56 (es := es) (E0 := mtE t n (enW W.1 W.2.1 W.2.2.1 (-1)) W.2.2.2.length (nxS t n p)) (by omega) i1 ⟨v1, v2⟩ hB5 hWf (M.md mdA ⟨y0, y1, y2⟩) hat o7 o8 b5 (fun p' Ec hR => ?_) (fun τ6 C' a1 vs' q hR => ?_) (fun τ6 C' a1 vs' p' Ec q hR c4 c5 g1 g2 g3 g4 g5 => ?_) (fun τ6 C' a1 vs' p' Ec p3 V es3 acc p9 es' Y Ec' hR c4 c1 c2 ne hE g1 g2 g3 g4 g5 => ?_) (fun τ6 C' a1 vs' p' Ec p3 V acc p9 ly x k6 y hR c4 ees ev c1 c2 g1 g2 g3 g4 => ?_)
      · rw [eR3] at hR
        have hR := Sum.inr.inj hR
        have ea : nxS t n (nxS t n p) = p' := congrArg Prod.fst hR
        have eb : es ++ mtE t n (enW W.1 W.2.1 W.2.2.1 (-1)) W.2.2.2.length (nxS t n p) = Ec := congrArg Prod.snd hR
        subst ea eb
        refine ⟨eqb_in hes inE (by omega) (Nat.le_refl _), fun zz => ?_⟩
        obtain ⟨zz1, zz2⟩ := List.append_eq_nil_iff.mp zz
        obtain ⟨zz3, zz4⟩ := List.append_eq_nil_iff.mp zz2
        have n1 := ife_nil zz3
        have n2 := ife_nil zz4
        refine ⟨?_, by omega⟩
        cases hc : (enW W.1 W.2.1 W.2.2.1 (-1)).2.1 (nmS t n (nxS t n p)) with
        | none => exact absurd hc n1
        | some j =>
          rw [hc] at hv
          have hv : v = (j : Int) := hv
          omega
      · rw [eR3] at hR
        cases hR
      · rw [eR3] at hR
        have hR := Sum.inr.inj hR
        have ea : nxS t n (nxS t n p) = p' := congrArg Prod.fst hR
        subst ea
        have em : pMt t n (enW W.1 W.2.1 W.2.2.1 (-1)) W.2.2.2.length (nxS t n p) = .inl q := by
          rw [mt]
          by_cases z4 : tyS t n (nxS t n (nxS t n p)) = 4
          · rw [if_pos z4]
            have c4 := c4 z4
            rw [ew.1, ew.2.1] at c4
            cases hs : pSp t n (enW W.1 W.2.1 W.2.2.1 (-1)) (plO (enW W.1 W.2.1 W.2.2.1 (-1)) ((enW W.1 W.2.1 W.2.2.1 (-1)).2.1 (nmS t n (nxS t n p)))) (n + 1 - nxS t n (nxS t n (nxS t n p))) (nxS t n (nxS t n (nxS t n p))) 0 [] (mtE t n (enW W.1 W.2.1 W.2.2.1 (-1)) W.2.2.2.length (nxS t n p)) [] with
            | inl q' =>
              rw [hs] at c4
              have c4 : q = q' := c4
              rw [c4]
            | inr x3 =>
              obtain ⟨p3, V, es3, acc⟩ := x3
              rw [hs] at c4
              have c4 : pTl t n (enW W.1 W.2.1 W.2.2.1 (-1)) (wiO ((enW W.1 W.2.1 W.2.2.1 (-1)).2.1 (nmS t n (nxS t n p)))) V p3 = .inl q := c4
              dsimp only
              rw [c4]
          · rw [if_neg z4, c5 z4]
        have ed : pDe t n W p = .inl q := by
          rw [pMt1, em]
          rfl
        refine keepW ?_ τ6 C' a1 vs' (.inl q) ?_ g1 g3 g4 g2 (g5.pre mdA)
        · rw [hDe_in ed]
          rfl
        · rw [hDe_in ed]
          exact rfl
      · rw [eR3] at hR
        have hR := Sum.inr.inj hR
        have ea : nxS t n (nxS t n p) = p' := congrArg Prod.fst hR
        subst ea
        rw [ew.1] at c1
        rw [ew.2.1] at c2
        obtain ⟨ly, x, k6, y⟩ := Y
        have em : pMt t n (enW W.1 W.2.1 W.2.2.1 (-1)) W.2.2.2.length (nxS t n p) = .inr (p9, es3 ++ es', idx ((enW W.1 W.2.1 W.2.2.1 (-1)).2.1 (nmS t n (nxS t n p))), rlO (tyS t n p3), ly, acc, x, y, k6 + hsN (plO (enW W.1 W.2.1 W.2.2.1 (-1)) ((enW W.1 W.2.1 W.2.2.1 (-1)).2.1 (nmS t n (nxS t n p)))) acc) := by
          rw [mt, if_pos c4, c1]
          dsimp only
          rw [c2]
        have ed := pMt1
        rw [em] at ed
        unfold mtD at ed
        dsimp only at ed
        have hH := hDe_ir (es := es) ed
        have he : HE (.inr (p9, Ec')) (hDe t n W (.inr (p, es))) := by
          rw [hH]
          refine ⟨rfl, ?_⟩
          rw [hE.ls, List.append_assoc]
          by_cases zt : es3 ++ es' = [] ∧ twB W.2.2.2 (idx ((enW W.1 W.2.1 W.2.2.1 (-1)).2.1 (nmS t n (nxS t n p))), rlO (tyS t n p3), ly, acc, x, y, k6 + hsN (plO (enW W.1 W.2.1 W.2.2.1 (-1)) ((enW W.1 W.2.1 W.2.2.1 (-1)).2.1 (nmS t n (nxS t n p)))) acc) (plO (enW W.1 W.2.1 W.2.2.1 (-1)) ((enW W.1 W.2.1 W.2.2.1 (-1)).2.1 (nmS t n (nxS t n p)))) = true
          · rw [if_pos zt, zt.1, List.append_nil, List.nil_append]
            have ne2 : es ≠ [] := fun q => ne (hE.nil.mpr (by rw [List.append_assoc, zt.1, q]; rfl))
            obtain ⟨u, hu⟩ := lsE_some ne2
            rw [lsE_later hu (fun e he => ?_), hu]
            rw [List.mem_singleton.mp he]
            have := hes u hu
            show u.1 < nxS t n p
            omega
          · rw [if_neg zt, List.append_nil]
        have hz : clI (hDe t n W (.inr (p, es))) = 0 := by
          rw [hH] at he ⊢
          refine if_neg (fun q => ?_)
          obtain ⟨u, hu⟩ := lsE_some ne
          have h2 := he.2
          rw [hu, q] at h2
          cases h2
        exact keepW hz τ6 C' a1 vs' _ he g1 g3 g4 g2 (g5.pre mdA)
      · rw [eR3] at hR
        have hR := Sum.inr.inj hR
        have ea : nxS t n (nxS t n p) = p' := congrArg Prod.fst hR
        subst ea
        rw [if_pos ev] at ew
        rw [if_pos ev, ew.1] at c1
        rw [ew.2.1] at c2
        subst ees
        have em : pMt t n (enW W.1 W.2.1 W.2.2.1 (-1)) W.2.2.2.length (nxS t n p) = .inr (p9, [], v, rlO (tyS t n p3), ly, acc, x, y, k6 + hsN (plW W.2.1 v.toNat) acc) := by
          rw [mt, if_pos c4, c1]
          dsimp only
          rw [c2, ← ew.1, ← ew.2.2]
          rfl
        have ed := pMt1
        rw [em] at ed
        unfold mtD at ed
        dsimp only at ed
        rw [← ew.1, if_pos (show W.2.2.2.length < 120 by omega)] at ed
        refine ⟨fun tw M6 b6 => ?_, fun tw M6 b6 => ?_⟩
        · rw [if_pos ⟨rfl, tw⟩] at ed
          have hH := hDe_ir (es := []) ed
          refine keepW ?_ τ6 C' a1 vs' (.inr (p9, [(sgP t n i, 2)])) ?_ g1 M6 g2 b6 (g3.pre mdA)
          · rw [hH]
            rfl
          · rw [hH, i5]
            exact HE.refl _
        · rw [if_neg (fun q => by rw [tw] at q; cases q.2)] at ed
          have hH := hDe_ir (es := []) ed
          have hN := nxW_some ed
          rw [hH, hN] at k
          exact k τ6 C' a1 vs' _ (HE.refl _) g1 M6 ⟨rfl, rfl⟩ g2 b6 (g3.pre mdA)
    · have eR3 : R3 = .inl (nxS t n p) := by
        rw [eR]
        have : hkn t n (enW W.1 W.2.1 W.2.2.1 (-1)).2.1 (.inr (nxS t n p, es)) = .inl (nxS t n p) := if_neg z2
        rw [this]
        rfl
      have ed : pDe t n W p = .inl (nxS t n p) := by
        rw [pMt1]
        unfold pMt
        rw [if_neg z2]
        rfl
      refine md_56 (es := es) (E0 := []) (by omega) i1 ⟨v1, v2⟩ hB5 hWf (M.md mdA ⟨y0, y1, y2⟩) hat o7 o8 b5 (fun p' Ec hR => by rw [eR3] at hR; cases hR) (fun τ6 C' a1 vs' q hR g1 g2 g3 g4 g5 => ?_) (fun τ6 C' a1 vs' p' Ec q hR => by rw [eR3] at hR; cases hR) (fun τ6 C' a1 vs' p' Ec p3 V es3 acc p9 es' Y Ec' hR => by rw [eR3] at hR; cases hR) (fun τ6 C' a1 vs' p' Ec p3 V acc p9 ly x k6 y hR => by rw [eR3] at hR; cases hR)
      rw [eR3] at hR
      have eq : nxS t n p = q := Sum.inl.inj hR
      subst eq
      refine keepW ?_ τ6 C' a1 vs' (.inl (nxS t n p)) ?_ g1 g3 g4 g2 (g5.pre mdA)
      · rw [hDe_in ed]
        rfl
      · rw [hDe_in ed]
        exact rfl
  show (τ3.i 10 0 < Int32.ofNat 120 → _) ∧ (¬ τ3.i 10 0 < Int32.ofNat 120 → _)
  rw [e10, oN_lt (by omega) (by decide), m1, i2]
  refine ⟨fun z => go _ _ (HdF.refl _) rfl ?_, fun z => h_break (rule := 7) hB4 b4 i1 (by decide) (fun τ5 f5 b5 => go τ5 _ f5 rfl ?_)⟩
  · rw [if_neg (by omega)]
    cases hR : hkn t n (enW W.1 W.2.1 W.2.2.1 (-1)).2.1 (.inr (nxS t n p, es)) with
    | inl q =>
      rw [hR] at b4
      exact b4
    | inr x =>
      obtain ⟨x1, x2⟩ := x
      rw [hR] at b4
      show BdS t n N vs (.inr (x1, x2 ++ [])) _
      rw [List.append_nil]
      exact b4
  · rw [if_pos (by omega)]
    rw [i5] at b5
    exact b5
end MT7

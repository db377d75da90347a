/-! THE CLASS: reading E; with, try -/
section EQS3
variable {t : Nat → Int32} {n S : Nat} {p c : Nat} {es : Evs} {L : Cd} {b : Nat} {f : List Int32 → Option Nat}
theorem kn_y (h : tyS t n p = 2) : knR t n f (.inr (p, c, es, L, b)) = .inr (nxS t n p, c, es ++ (if f (nmS t n p) = none then [(p, 3)] else []), L, b) := by
  unfold knR bdR
  exact if_pos h
theorem kn_n (h : tyS t n p ≠ 2) : knR t n f (.inr (p, c, es, L, b)) = .inl p := by
  unfold knR bdR
  exact if_neg h
theorem try_code (S : Nat) (L A E : Cd) (b : Nat) (v : Int32) (X : Cd) (hX : X = agA L.length (Int32.ofNat (S + (L ++ [(18, 0, b)] ++ A ++ [(19, 0, 0)]).length)) (L ++ [(18, 0, b)] ++ A ++ [(19, 0, 0)])) : X = L ++ (18, Int32.ofNat (S + L.length + A.length + 2), b) :: A ++ [(19, 0, 0)] ∧ agA (L ++ [(18, 0, b)] ++ A).length (Int32.ofNat (S + (X ++ [(12, v, 0)] ++ E).length)) (X ++ [(12, v, 0)] ++ E) = L ++ (18, Int32.ofNat (S + L.length + A.length + 2), b) :: (A ++ (19, Int32.ofNat (S + L.length + A.length + 3 + E.length), 0) :: (12, v, 0) :: E) := by
  have e1 : X = L ++ (18, Int32.ofNat (S + L.length + A.length + 2), b) :: A ++ [(19, 0, 0)] := by
    have l1 : S + (L ++ [((18 : Int32), (0 : Int32), b)] ++ A ++ [(19, 0, 0)]).length = S + L.length + A.length + 2 := by
      simp only [List.length_append, List.length_singleton]
      omega
    have l2 : L ++ [((18 : Int32), (0 : Int32), b)] ++ A ++ [(19, 0, 0)] = L ++ (18, 0, b) :: (A ++ [(19, 0, 0)]) := by
      simp only [List.append_assoc, List.cons_append, List.nil_append]
    rw [hX, l1, l2, agA_at, List.append_assoc L]
    rfl
  refine ⟨e1, ?_⟩
  have l3 : S + (X ++ [(12, v, 0)] ++ E).length = S + L.length + A.length + 3 + E.length := by
    rw [e1]
    simp only [List.length_append, List.length_cons, List.length_nil]
    omega
  have l4 : (L ++ [((18 : Int32), (0 : Int32), b)] ++ A).length = (L ++ (18, Int32.ofNat (S + L.length + A.length + 2), b) :: A).length := by
    simp only [List.length_append, List.length_cons, List.length_nil]
    omega
  have l5 : X ++ [(12, v, 0)] ++ E = (L ++ (18, Int32.ofNat (S + L.length + A.length + 2), b) :: A) ++ (19, 0, 0) :: ((12, v, 0) :: E) := by
    rw [e1]
    simp only [List.append_assoc, List.cons_append, List.nil_append]
  rw [l3, l4, l5, agA_at]
  simp only [List.append_assoc, List.cons_append]
end EQS3
section E3
variable {Z : zT} {d : Nat} {t : Nat → Int32} {n N : Nat} {B : Nat × Nat × Nat × Nat × Nat} {C : Nat × Nat × Nat × Nat} {W : Wld} {w : Int} {S : Nat} {σ0 : Sg} {vs : List (List Int32)} {R : RR} {σ τ : Sg} {K : kS} {e pp : Pf} {env : Env} {D D0 o : Nat}
/-- a layer, a kind that must be known -/
theorem cl_layer (h : CSt t n N B C W w S σ0 vs R σ) (k : ∀ τ (v : Int), -1 ≤ v → v < W.2.2.1.length → (∀ p c es L b, R = .inr (p, c, es, L, b) → tyS t n p = 2 → v = idx ((enW W.1 W.2.1 W.2.2.1 w).2.2.1 (nmS t n p))) → CSt t n N B C W w S σ0 vs (knR t n (enW W.1 W.2.1 W.2.2.1 w).2.2.1 R) τ → K (.inl (some (.int (Int32.ofInt v)))) τ) : C_X7_takeKnownName_0 Z (d + 2) σ 2 K := by
  obtain ⟨l1, l2, l3, l4⟩ := h.cb.2.2.2.2.2.2.2.2.2.1
  exact cl_known (s := 2) (o := 48) (ns := W.2.2.1) xJ_0.2.2.1 (by decide) (by omega) (fun τ R hτ => ⟨hτ.cb.2.2.2.2.2.2.2.2.2.1.1, fun _ _ _ _ _ _ => hτ.cb.2.2.2.2.2.2.2.2.2.1.2.2.1⟩) (fun nm => fi_lst l4 nm) h k
theorem cl_kindN (h : CSt t n N B C W w S σ0 vs R σ) (k : ∀ τ (v : Int), -1 ≤ v → v < W.1.length → (∀ p c es L b, R = .inr (p, c, es, L, b) → tyS t n p = 2 → v = idx ((enW W.1 W.2.1 W.2.2.1 w).1 (nmS t n p))) → CSt t n N B C W w S σ0 vs (knR t n (enW W.1 W.2.1 W.2.2.1 w).1 R) τ → K (.inl (some (.int (Int32.ofInt v)))) τ) : C_X7_takeKnownName_0 Z (d + 2) σ 0 K := by
  obtain ⟨l1, l2, l3, l4, -⟩ := h.cb.2.2.2.2.2.2.2.1
  have el : (W.1.map (·.1)).length = W.1.length := List.length_map ..
  exact cl_known (s := 0) (o := 0) (ns := W.1.map (·.1)) xJ_0.1 (by decide) (by omega) (fun τ R hτ => ⟨by rw [el]; exact hτ.cb.2.2.2.2.2.2.2.1.1, fun _ _ _ _ _ _ => hτ.cb.2.2.2.2.2.2.2.1.2.2.1⟩) (fun nm => fi_lst l4 nm) h (fun τ v v1 v2 => k τ v v1 (by omega))
theorem cl_with16 {y : Nat} (he : ∀ D, D0 ≤ D → FolC t n N B C W w S σ0 e vs (fun σ K => C_X7_readE_0 Z D σ (Int32.ofNat (o + 1)) K)) (hD : D0 + 3 ≤ D) (h : CSt t n N B C W w S σ0 vs R σ) (g : GD 0 (wK w) R) (hy : sgT t n R = y) (hy2 : y = 45 ∨ y = 46) (k : ∀ τ, CSt t n N B C W w S σ0 vs (gR (pEb t n (enW W.1 W.2.1 W.2.2.1 w) e pp) S vs R) τ → GL R (gR (pEb t n (enW W.1 W.2.1 W.2.2.1 w) e pp) S vs R) → K (.inl none) τ) : C_X7_readWith_16 Z D σ (Int32.ofNat o) (if y = 45 then 15 else 16) K := by
  obtain ⟨d, rfl⟩ : ∃ d, D = d + 3 := ⟨D - 3, by omega⟩
  refine T_X7_readWith_16 h.fx (cl_node h g.cp (fun τ1 h1 => cl_sign h1 ?_))
  show C_X7_take_0 Z (d + 2) τ1 (Int32.ofNat (sgT t n (anR R))) _
  rw [sgT_an, hy]
  refine cl_take (by omega) h1 (fun τ2 h2 => ?_)
  have g2 := gd_tk (t := t) (n := n) (y := y) (by omega) (gd_an g)
  refine cl_layer h2 (fun τ3 v v1 v2 v3 h3 => ?_)
  have g3 := gd_kn (t := t) (n := n) (f := (enW W.1 W.2.1 W.2.2.1 w).2.2.1) (g2.w (Nat.zero_le _) (Nat.le_refl _))
  refine cl_emit h3 (fun p c L b e => by have := g3.pl p c L b e; omega) (fun τ4 h4 => cl_take (y := 47) (by decide) h4 (fun τ5 h5 => ?_))
  have g5 := gd_tk (t := t) (n := n) (y := 47) (by decide) ((gd_em (o := if y = 45 then 15 else 16) (a := Int32.ofInt v) g3).w (Nat.zero_le _) (Nat.le_refl _))
  show C_X7_readE_0 Z (d + 2) τ5 (Int32.ofNat o + 1) _
  rw [oN_1]
  refine he (d + 2) (by omega) _ τ5 _ h5 (g5.w (Nat.le_refl _) (by omega)) (fun τ6 h6 l6 => ?_)
  have g6 := l6.1 _ g5
  refine cl_emit h6 (fun p c L b e => by have := g6.pl p c L b e; omega) (fun τ7 h7 => ?_)
  have re : RE (emR 17 0 (gR e S vs (tkR t n 47 (emR (if y = 45 then 15 else 16) (Int32.ofInt v) (knR t n (enW W.1 W.2.1 W.2.2.1 w).2.2.1 (tkR t n y (anR R))))))) (gR (pEb t n (enW W.1 W.2.1 W.2.2.1 w) e pp) S vs R) := by
    rcases R with q | ⟨p, c, es, L, b⟩
    · have hy : 0 = y := hy
      omega
    · have hy : tyS t n p = y := hy
      have e1 := pE_45 (t := t) (n := n) (env := enW W.1 W.2.1 W.2.2.1 w) (e := e) (pp := pp) (vs := vs) (c := c) hy hy2
      rw [an_e, tk_y hy] at v3 ⊢
      by_cases z1 : tyS t n (nxS t n p) = 2
      · rw [if_pos z1] at e1
        have ev := v3 _ _ _ _ _ rfl z1
        rw [kn_y z1, em_e]
        by_cases z2 : tyS t n (nxS t n (nxS t n p)) = 47
        · rw [if_pos z2] at e1
          rw [tk_y z2]
          cases hh : e vs (nxS t n (nxS t n (nxS t n p))) (c + 1) with
          | inl q =>
            rw [bnd_l hh] at e1
            rw [gR_l hh, gR_l e1]
            exact rfl
          | inr x =>
            obtain ⟨p1, c1, es1, a⟩ := x
            rw [bnd_r hh, ← ev] at e1
            rw [gR_r hh, gR_r e1, em_e]
            refine re_app (by simp only [List.append_assoc]) ?_
            have eL : S + (L ++ [((if y = 45 then 15 else 16 : Int32), Int32.ofInt v, b + 1)]).length = S + L.length + 1 := by
              rw [List.length_append, List.length_singleton]
              omega
            rw [eL, List.append_assoc, List.append_assoc]
            congr 1
            rcases hy2 with z | z
            · subst z
              rfl
            · subst z
              rfl
        · rw [if_neg z2] at e1
          rw [tk_n z2, gR_l e1]
          exact rfl
      · rw [if_neg z1] at e1
        rw [kn_n z1, gR_l e1]
        exact rfl
  refine k τ7 (h7.re re) (re.gl ⟨fun k q => ?_, fun j R0 q => ?_⟩)
  · have q3 := gd_kn (t := t) (n := n) (f := (enW W.1 W.2.1 W.2.2.1 w).2.2.1) ((gd_tk (t := t) (n := n) (y := y) (by omega) (gd_an q)).w (Nat.zero_le _) (Nat.le_refl _))
    have q5 := gd_tk (t := t) (n := n) (y := 47) (by decide) ((gd_em (o := if y = 45 then 15 else 16) (a := Int32.ofInt v) q3).w (Nat.zero_le _) (Nat.le_refl _))
    exact (gd_em (l6.1 _ q5)).w (Nat.le_refl _) (by omega)
  · exact (lk_em (l6.2 _ R0 (lk_tk (lk_em (lk_kn (lk_tk (lk_an q))))))).w (by omega)
theorem cl_with {y : Nat} (he : ∀ D, D0 ≤ D → FolC t n N B C W w S σ0 e vs (fun σ K => C_X7_readE_0 Z D σ (Int32.ofNat (o + 1)) K)) (hD : D0 + 3 ≤ D) (h : CSt t n N B C W w S σ0 vs R σ) (g : GD 0 (wK w) R) (hy : sgT t n R = y) (hy2 : y = 45 ∨ y = 46) (k : ∀ τ, CSt t n N B C W w S σ0 vs (gR (pEb t n (enW W.1 W.2.1 W.2.2.1 w) e pp) S vs R) τ → GL R (gR (pEb t n (enW W.1 W.2.1 W.2.2.1 w) e pp) S vs R) → K (.inl none) τ) : C_X7_readWith_0 Z D σ (Int32.ofNat o) K := by
  have w16 := cl_with16 (pp := pp) he hD h g hy hy2 k
  obtain ⟨d, rfl⟩ : ∃ d, D = d + 3 := ⟨D - 3, by omega⟩
  refine T_X7_readWith_0 h.fx (cl_sign h ?_)
  rw [hy]
  refine ⟨fun z => ?_, fun z => ?_⟩
  · rcases hy2 with q | q
    · rw [q] at z
      exact absurd rfl z
    · rw [q] at w16
      exact w16
  · rcases hy2 with q | q
    · rw [q] at w16
      exact w16
    · rw [q] at z
      exact absurd z (by decide)
theorem cl_try (hw : ∀ vs' D, vs'.length ≤ vs.length + 1 → D0 ≤ D → FolC t n N B C W w S σ0 e vs' (fun σ K => C_X7_readE_0 Z D σ (Int32.ofNat (o + 1)) K)) (hD : D0 + 4 ≤ D) (hv : vs.length < 16) (h : CSt t n N B C W w S σ0 vs R σ) (g : GD 0 (wK w) R) (hy : sgT t n R = 48) (k : ∀ τ, CSt t n N B C W w S σ0 vs (gR (pEb t n env e pp) S vs R) τ → GL R (gR (pEb t n env e pp) S vs R) → K (.inl none) τ) : C_X7_readTry_0 Z D σ (Int32.ofNat o) K := by
  obtain ⟨d, rfl⟩ : ∃ d, D = d + 3 := ⟨D - 3, by omega⟩
  refine T_X7_readTry_0 h.fx (cl_node h g.cp (fun τ1 h1 => cl_take (y := 48) (by decide) h1 (fun τ2 h2 => ?_)))
  have g2 := gd_tk (t := t) (n := n) (y := 48) (by decide) (gd_an g)
  refine cl_emit h2 (fun p c L b e => by have := g2.pl p c L b e; omega) (fun τ3 h3 => ?_)
  have g3 := gd_em (o := 18) (a := 0) g2
  show C_X7_readE_0 Z (d + 2) τ3 (Int32.ofNat o + 1) _
  rw [oN_1]
  refine hw vs (d + 2) (by omega) (by omega) _ τ3 _ h3 (g3.w (Nat.le_refl _) (by omega)) (fun τ4 h4 l4 => ?_)
  have g4 := l4.1 _ g3
  refine cl_emit h4 (fun p c L b e => by have := g4.pl p c L b e; omega) (fun τ5 h5 => ?_)
  have g5 := gd_em (o := 19) (a := 0) g4
  have k5 := lk_em (o := 19) (a := 0) (l4.2 _ _ (lk_em (o := 18) (a := 0) (LeK.refl (tkR t n 48 (anR R)))))
  refine cl_aimR h5 h2 (k5.w (by omega)) (fun τ6 h6 => cl_take (y := 49) (by decide) h6 (fun τ7 h7 => ?_))
  have g7 := gd_tk (t := t) (n := n) (y := 49) (by decide) ((gd_am (S := S) (f := lnR (tkR t n 48 (anR R))) g5).w (Nat.zero_le _) (Nat.le_refl _))
  obtain ⟨i, i1, i2, i3, i4⟩ := h7.pos
  refine cl_take (y := 2) (by decide) h7 (fun τ8 h8 => cl_take (y := 47) (by decide) h8 (fun τ9 h9 => ?_))
  have g9 := gd_tk (t := t) (n := n) (y := 47) (by decide) ((gd_tk (t := t) (n := n) (y := 2) (by decide) (g7.w (Nat.zero_le _) (Nat.le_refl _))).w (Nat.zero_le _) (Nat.le_refl _))
  show C_X7_readWithVariable_0 Z (d + 2) τ9 (τ7.i 40 3) (Int32.ofNat o) _
  rw [i2]
  refine cl_wv (fun D hD => hw _ D (by rw [List.length_append]; exact Nat.le_refl _) hD) (by omega) h9 (g9.w (Nat.le_refl _) (by omega)) i1 hv (fun p c es L b q => ?_) (fun τ10 h10 l10 => ?_)
  · obtain ⟨p1, c1, es1, L1, b1, e1, -⟩ := bd_live q
    obtain ⟨p4, c4, es4, L4, b4, e4, e5⟩ := bd_live e1
    rw [i4 _ _ _ _ _ e4]
    by_cases z : tyS t n p4 = 2
    · exact z
    · rw [if_neg z] at e5
      cases e5
  have k10 := l10.2 _ _ (lk_em (o := 12) (a := Int32.ofNat vs.length) (lk_tk (t := t) (n := n) (y := 47) (lk_tk (t := t) (n := n) (y := 2) (lk_tk (t := t) (n := n) (y := 49) (lk_am (S := S) (f := lnR (tkR t n 48 (anR R))) (lk_em (o := 19) (a := 0) (LeK.refl (gR e S vs (emR 18 0 (tkR t n 48 (anR R)))))))))))
  refine cl_aimR h10 h4 (k10.w (by omega)) (fun τ11 h11 => ?_)
  have re : RE (amR S (lnR (gR e S vs (emR 18 0 (tkR t n 48 (anR R))))) (gR e S (vs ++ [nmS t n (sgP t n i)]) (emR 12 (Int32.ofNat vs.length) (tkR t n 47 (tkR t n 2 (tkR t n 49 (amR S (lnR (tkR t n 48 (anR R))) (emR 19 0 (gR e S vs (emR 18 0 (tkR t n 48 (anR R)))))))))))) (gR (pEb t n env e pp) S vs R) := by
    rcases R with q | ⟨p, c, es, L, b⟩
    · have hy : 0 = 48 := hy
      omega
    · have hy : tyS t n p = 48 := hy
      have e1 := pE_48 (t := t) (n := n) (env := env) (e := e) (pp := pp) (vs := vs) (c := c) hy
      rw [an_e, tk_y hy, em_e] at i4 ⊢
      cases hh : e vs (nxS t n p) (c + 1) with
      | inl q =>
        rw [bnd_l hh] at e1
        rw [gR_l hh, gR_l e1]
        exact rfl
      | inr x =>
        obtain ⟨p1, c1, es1, a⟩ := x
        rw [bnd_r hh] at e1
        rw [gR_r hh, em_e, am_e] at i4 ⊢
        by_cases z1 : tyS t n p1 = 49
        · rw [if_pos z1] at e1
          rw [tk_y z1] at i4 ⊢
          have ei : sgP t n i = nxS t n p1 := i4 _ _ _ _ _ rfl
          rw [ei]
          by_cases z2 : tyS t n (nxS t n p1) = 2
          · rw [if_pos z2] at e1
            rw [tk_y z2]
            by_cases z3 : tyS t n (nxS t n (nxS t n p1)) = 47
            · rw [if_pos z3] at e1
              rw [tk_y z3, em_e]
              cases hk : e (vs ++ [nmS t n (nxS t n p1)]) (nxS t n (nxS t n (nxS t n p1))) c1 with
              | inl q =>
                rw [bnd_l hk] at e1
                rw [gR_l hk, gR_l e1]
                exact rfl
              | inr x =>
                obtain ⟨p2, c2, es2, a2⟩ := x
                rw [bnd_r hk] at e1
                rw [gR_r hk, gR_r e1, ln_e, ln_e, am_e]
                refine re_app (by simp only [List.append_assoc]) ?_
                have eB : S + (L ++ [((18 : Int32), (0 : Int32), b + 1)]).length = S + L.length + 1 := by
                  rw [List.length_append, List.length_singleton]
                  omega
                rw [eB]
                show _ = L ++ ((18, Int32.ofNat (S + L.length + (cdB a false (S + L.length + 1) 0).length + 2), b + 1) :: (cdB a false (S + L.length + 1) 0 ++ (19, Int32.ofNat (S + L.length + (cdB a false (S + L.length + 1) 0).length + 3 + (cdB a2 false (S + L.length + (cdB a false (S + L.length + 1) 0).length + 3) 0).length), 0) :: (12, Int32.ofInt (vs.length : Int), 0) :: cdB a2 false (S + L.length + (cdB a false (S + L.length + 1) 0).length + 3) 0))
                generalize cdB a false (S + L.length + 1) 0 = A at *
                obtain ⟨q1, q2⟩ := try_code S L A (cdB a2 false (S + L.length + A.length + 3) 0) (b + 1) (Int32.ofNat vs.length) _ rfl
                have eX : S + (agA L.length (Int32.ofNat (S + (L ++ [(18, 0, b + 1)] ++ A ++ [(19, 0, 0)]).length)) (L ++ [(18, 0, b + 1)] ++ A ++ [(19, 0, 0)]) ++ [((12 : Int32), Int32.ofNat vs.length, (0 : Nat))]).length = S + L.length + A.length + 3 := by
                  rw [q1]
                  simp only [List.length_append, List.length_cons, List.length_nil]
                  omega
                rw [eX]
                exact q2
            · rw [if_neg z3] at e1
              rw [tk_n z3, gR_l e1]
              exact rfl
          · rw [if_neg z2] at e1
            rw [tk_n z2, gR_l e1]
            exact rfl
        · rw [if_neg z1] at e1
          rw [tk_n z1, gR_l e1]
          exact rfl
  refine k τ11 (h11.re re) (re.gl ⟨fun k q => ?_, fun j R0 q => ?_⟩)
  · have q4 := l4.1 _ (gd_em (o := 18) (a := 0) (gd_tk (t := t) (n := n) (y := 48) (by decide) (gd_an q)))
    have q7 := gd_tk (t := t) (n := n) (y := 49) (by decide) ((gd_am (S := S) (f := lnR (tkR t n 48 (anR R))) (gd_em (o := 19) (a := 0) q4)).w (Nat.zero_le _) (Nat.le_refl _))
    have q9 := gd_tk (t := t) (n := n) (y := 47) (by decide) ((gd_tk (t := t) (n := n) (y := 2) (by decide) (q7.w (Nat.zero_le _) (Nat.le_refl _))).w (Nat.zero_le _) (Nat.le_refl _))
    exact (gd_am (l10.1 _ (gd_em q9))).w (Nat.le_refl _) (by omega)
  · exact (lk_am (l10.2 _ R0 (lk_em (lk_tk (lk_tk (lk_tk (lk_am (lk_em (l4.2 _ R0 (lk_em (lk_tk (lk_an q)))))))))))).w (by omega)
end E3

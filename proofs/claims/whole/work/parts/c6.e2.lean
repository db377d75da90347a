/-! THE CLASS: reading E; if, with, try -/
section EQS2
variable {t : Nat → Int32} {n S : Nat} {f : Pf} {vs : List (List Int32)} {p c p' c' : Nat} {es es' : Evs} {L : Cd} {b : Nat} {x : Ast} {q y : Nat} {env : Env} {e pp : Pf}
theorem am_e {f : Nat} : amR S f (.inr (p, c, es, L, b)) = .inr (p, c, es, agA f (Int32.ofNat (S + L.length)) L, b) := rfl
theorem ln_e : lnR (.inr (p, c, es, L, b)) = L.length := rfl
theorem pE_29 (h : tyS t n p = 29) : pEb t n env e pp vs p c = bnd (e vs (nxS t n p) (c + 1)) fun p1 c1 es1 a =>
      if tyS t n p1 = 43 then bnd (e vs (nxS t n p1) c1) fun p2 c2 es2 b =>
        if tyS t n p2 = 44 then bnd (e vs (nxS t n p2) c2) fun p3 c3 es3 x => .inr (p3, c3, cnE c p ++ es1 ++ es2 ++ es3, aN 2 0 0 a b x)
        else .inl p2
      else .inl p1 := by
  unfold pEb
  rw [if_neg (by omega), if_pos h]
theorem pE_45 (h : tyS t n p = y) (hy : y = 45 ∨ y = 46) : pEb t n env e pp vs p c = if tyS t n (nxS t n p) = 2 then
      (if tyS t n (nxS t n (nxS t n p)) = 47 then
        bnd (e vs (nxS t n (nxS t n (nxS t n p))) (c + 1)) fun p3 c3 es3 a => .inr (p3, c3, cnE c p ++ (if env.2.2.1 (nmS t n (nxS t n p)) = none then [(nxS t n p, 3)] else []) ++ es3, aN (if y = 45 then 3 else 4) (idx (env.2.2.1 (nmS t n (nxS t n p)))) 0 a .nil .nil)
      else .inl (nxS t n (nxS t n p)))
    else .inl (nxS t n p) := by
  unfold pEb
  rw [h, if_neg (by omega), if_neg (by omega), if_pos hy]
theorem pE_48 (h : tyS t n p = 48) : pEb t n env e pp vs p c = bnd (e vs (nxS t n p) (c + 1)) fun p1 c1 es1 a =>
      if tyS t n p1 = 49 then
        (if tyS t n (nxS t n p1) = 2 then
          (if tyS t n (nxS t n (nxS t n p1)) = 47 then
            bnd (e (vs ++ [nmS t n (nxS t n p1)]) (nxS t n (nxS t n (nxS t n p1))) c1) fun p4 c4 es4 b => .inr (p4, c4, cnE c p ++ es1 ++ es4, aN 5 vs.length 0 a b .nil)
          else .inl (nxS t n (nxS t n p1)))
        else .inl (nxS t n p1))
      else .inl p1 := by
  unfold pEb
  rw [if_neg (by omega), if_neg (by omega), if_neg (by omega), if_pos h]
theorem if_code (S : Nat) (L A M E : Cd) (X : Cd) (hX : X = agA (L ++ A).length (Int32.ofNat (S + (L ++ A ++ [(13, 0, 0)] ++ M ++ [(14, 0, 0)]).length)) (L ++ A ++ [(13, 0, 0)] ++ M ++ [(14, 0, 0)])) : X = L ++ A ++ (13, Int32.ofNat (S + L.length + A.length + M.length + 2), 0) :: M ++ [(14, 0, 0)] ∧ agA (L ++ A ++ [(13, 0, 0)] ++ M).length (Int32.ofNat (S + (X ++ E).length)) (X ++ E) = L ++ (A ++ (13, Int32.ofNat (S + L.length + A.length + M.length + 2), 0) :: (M ++ (14, Int32.ofNat (S + L.length + A.length + M.length + 2 + E.length), 0) :: E)) := by
  have e1 : X = L ++ A ++ (13, Int32.ofNat (S + L.length + A.length + M.length + 2), 0) :: M ++ [(14, 0, 0)] := by
    have l1 : S + (L ++ A ++ [((13 : Int32), (0 : Int32), (0 : Nat))] ++ M ++ [(14, 0, 0)]).length = S + L.length + A.length + M.length + 2 := by
      simp only [List.length_append, List.length_singleton]
      omega
    have l2 : L ++ A ++ [((13 : Int32), (0 : Int32), (0 : Nat))] ++ M ++ [(14, 0, 0)] = (L ++ A) ++ (13, 0, 0) :: (M ++ [(14, 0, 0)]) := by
      simp only [List.append_assoc, List.cons_append, List.nil_append]
    rw [hX, l1, l2, agA_at, List.append_assoc (L ++ A)]
    rfl
  refine ⟨e1, ?_⟩
  have l3 : S + (X ++ E).length = S + L.length + A.length + M.length + 2 + E.length := by
    rw [e1]
    simp only [List.length_append, List.length_cons, List.length_nil]
    omega
  have l4 : (L ++ A ++ [((13 : Int32), (0 : Int32), (0 : Nat))] ++ M).length = (L ++ A ++ (13, Int32.ofNat (S + L.length + A.length + M.length + 2), 0) :: M).length := by
    simp only [List.length_append, List.length_cons, List.length_nil]
    omega
  have l5 : X ++ E = (L ++ A ++ (13, Int32.ofNat (S + L.length + A.length + M.length + 2), 0) :: M) ++ (14, 0, 0) :: E := by
    rw [e1]
    simp only [List.append_assoc, List.cons_append, List.nil_append]
  rw [l3, l4, l5, agA_at]
  simp only [List.append_assoc, List.cons_append]
end EQS2
section E2
variable {Z : zT} {d : Nat} {t : Nat → Int32} {n N : Nat} {B : Nat × Nat × Nat × Nat × Nat} {C : Nat × Nat × Nat × Nat} {W : Wld} {w : Int} {S : Nat} {σ0 : Sg} {vs vs0 : List (List Int32)} {R R0 : RR} {σ τ τ0 : Sg} {K : kS} {e pp : Pf} {env : Env} {D D0 o : Nat}
theorem cl_aimR (h : CSt t n N B C W w S σ0 vs R σ) (h0 : CSt t n N B C W w S σ0 vs0 R0 τ0) (l : LeK 1 R0 R) (k : ∀ τ, CSt t n N B C W w S σ0 vs (amR S (lnR R0) R) τ → K (.inl none) τ) : C_X1_aim_0 Z (d + 1) σ (τ0.i 24 3) (σ.i 24 3) K := by
  obtain ⟨x, x1, x2, x3⟩ := h0.at
  rw [x2]
  refine cl_aim h x1 (fun p c L b q => ?_) k
  obtain ⟨p0, c0, L0, b0, e0, h0⟩ := l p c L b q
  have := x3 _ _ _ _ _ e0 rfl
  rw [e0]
  exact ⟨this, by show L0.length < _; omega⟩
theorem cl_if (he : ∀ D, D0 ≤ D → FolC t n N B C W w S σ0 e vs (fun σ K => C_X7_readE_0 Z D σ (Int32.ofNat (o + 1)) K)) (hD : D0 + 3 ≤ D) (h : CSt t n N B C W w S σ0 vs R σ) (g : GD 0 (wK w) R) (hy : sgT t n R = 29) (k : ∀ τ, CSt t n N B C W w S σ0 vs (gR (pEb t n env e pp) S vs R) τ → GL R (gR (pEb t n env e pp) S vs R) → K (.inl none) τ) : C_X7_readIf_0 Z D σ (Int32.ofNat o) K := by
  obtain ⟨d, rfl⟩ : ∃ d, D = d + 3 := ⟨D - 3, by omega⟩
  refine T_X7_readIf_0 h.fx (cl_node h g.cp (fun τ1 h1 => cl_take (y := 29) (by decide) h1 (fun τ2 h2 => ?_)))
  have g2 := gd_tk (t := t) (n := n) (y := 29) (by decide) (gd_an g)
  show C_X7_readE_0 Z (d + 2) τ2 (Int32.ofNat o + 1) _
  rw [oN_1]
  refine he (d + 2) (by omega) _ τ2 _ h2 (g2.w (Nat.le_refl _) (by omega)) (fun τ3 h3 l3 => ?_)
  have g3 := l3.1 _ g2
  refine cl_emit h3 (fun p c L b e => by have := g3.pl p c L b e; omega) (fun τ4 h4 => cl_take (y := 43) (by decide) h4 (fun τ5 h5 => ?_))
  have g5 := gd_tk (t := t) (n := n) (y := 43) (by decide) ((gd_em (o := 13) (a := 0) g3).w (Nat.zero_le _) (Nat.le_refl _))
  refine he (d + 2) (by omega) _ τ5 _ h5 (g5.w (Nat.le_refl _) (by omega)) (fun τ6 h6 l6 => ?_)
  have g6 := l6.1 _ g5
  refine cl_emit h6 (fun p c L b e => by have := g6.pl p c L b e; omega) (fun τ7 h7 => ?_)
  have g7 := gd_em (o := 14) (a := 0) g6
  have k7 := lk_em (o := 14) (a := 0) (l6.2 _ _ (lk_tk (t := t) (n := n) (y := 43) (lk_em (o := 13) (a := 0) (LeK.refl (gR e S vs (tkR t n 29 (anR R)))))))
  refine cl_aimR h7 h3 (k7.w (by omega)) (fun τ8 h8 => cl_take (y := 44) (by decide) h8 (fun τ9 h9 => ?_))
  have g9 := gd_tk (t := t) (n := n) (y := 44) (by decide) ((gd_am (S := S) (f := lnR (gR e S vs (tkR t n 29 (anR R)))) g7).w (Nat.zero_le _) (Nat.le_refl _))
  refine he (d + 2) (by omega) _ τ9 _ h9 (g9.w (Nat.le_refl _) (by omega)) (fun τ10 h10 l10 => ?_)
  have k10 := l10.2 _ _ (lk_tk (t := t) (n := n) (y := 44) (lk_am (S := S) (f := lnR (gR e S vs (tkR t n 29 (anR R)))) (lk_em (o := 14) (a := 0) (LeK.refl (gR e S vs (tkR t n 43 (emR 13 0 (gR e S vs (tkR t n 29 (anR R))))))))))
  refine cl_aimR h10 h6 (k10.w (by omega)) (fun τ11 h11 => ?_)
  have re : RE (amR S (lnR (gR e S vs (tkR t n 43 (emR 13 0 (gR e S vs (tkR t n 29 (anR R))))))) (gR e S vs (tkR t n 44 (amR S (lnR (gR e S vs (tkR t n 29 (anR R)))) (emR 14 0 (gR e S vs (tkR t n 43 (emR 13 0 (gR e S vs (tkR t n 29 (anR R))))))))))) (gR (pEb t n env e pp) S vs R) := by
    rcases R with q | ⟨p, c, es, L, b⟩
    · have hy : 0 = 29 := hy
      omega
    · have hy : tyS t n p = 29 := hy
      have e1 := pE_29 (t := t) (n := n) (env := env) (e := e) (pp := pp) (vs := vs) (c := c) hy
      rw [an_e, tk_y hy]
      cases hh : e vs (nxS t n p) (c + 1) with
      | inl q =>
        rw [bnd_l hh] at e1
        rw [gR_l hh, gR_l e1]
        exact rfl
      | inr x =>
        obtain ⟨p1, c1, es1, a⟩ := x
        rw [bnd_r hh] at e1
        rw [gR_r hh, em_e]
        by_cases z1 : tyS t n p1 = 43
        · rw [if_pos z1] at e1
          rw [tk_y z1]
          cases hk : e vs (nxS t n p1) c1 with
          | inl q =>
            rw [bnd_l hk] at e1
            rw [gR_l hk, gR_l e1]
            exact rfl
          | inr x =>
            obtain ⟨p2, c2, es2, a2⟩ := x
            rw [bnd_r hk] at e1
            rw [gR_r hk, em_e, ln_e, ln_e, am_e]
            by_cases z2 : tyS t n p2 = 44
            · rw [if_pos z2] at e1
              rw [tk_y z2]
              cases hl : e vs (nxS t n p2) c2 with
              | inl q =>
                rw [bnd_l hl] at e1
                rw [gR_l hl, gR_l e1]
                exact rfl
              | inr x =>
                obtain ⟨p3, c3, es3, a3⟩ := x
                rw [bnd_r hl] at e1
                rw [gR_r hl, gR_r e1, am_e]
                refine re_app (by simp only [List.append_assoc]) ?_
                have eB : S + (L ++ cdB a false (S + L.length) (b + 1) ++ [((13 : Int32), (0 : Int32), (0 : Nat))]).length = S + L.length + (cdB a false (S + L.length) (b + 1)).length + 1 := by
                  rw [List.length_append, List.length_append, List.length_singleton]
                  omega
                rw [eB]
                show _ = L ++ (cdB a false (S + L.length) (b + 1) ++ (13, Int32.ofNat (S + L.length + (cdB a false (S + L.length) (b + 1)).length + (cdB a2 false (S + L.length + (cdB a false (S + L.length) (b + 1)).length + 1) 0).length + 2), 0) :: (cdB a2 false (S + L.length + (cdB a false (S + L.length) (b + 1)).length + 1) 0 ++ (14, Int32.ofNat (S + L.length + (cdB a false (S + L.length) (b + 1)).length + (cdB a2 false (S + L.length + (cdB a false (S + L.length) (b + 1)).length + 1) 0).length + 2 + (cdB a3 false (S + L.length + (cdB a false (S + L.length) (b + 1)).length + (cdB a2 false (S + L.length + (cdB a false (S + L.length) (b + 1)).length + 1) 0).length + 2) 0).length), 0) :: cdB a3 false (S + L.length + (cdB a false (S + L.length) (b + 1)).length + (cdB a2 false (S + L.length + (cdB a false (S + L.length) (b + 1)).length + 1) 0).length + 2) 0))
                generalize cdB a false (S + L.length) (b + 1) = A at *
                generalize cdB a2 false (S + L.length + A.length + 1) 0 = M at *
                obtain ⟨q1, q2⟩ := if_code S L A M (cdB a3 false (S + L.length + A.length + M.length + 2) 0) _ rfl
                have eX : S + (agA (L ++ A).length (Int32.ofNat (S + (L ++ A ++ [(13, 0, 0)] ++ M ++ [(14, 0, 0)]).length)) (L ++ A ++ [(13, 0, 0)] ++ M ++ [(14, 0, 0)])).length = S + L.length + A.length + M.length + 2 := by
                  rw [q1]
                  simp only [List.length_append, List.length_cons, List.length_nil]
                  omega
                rw [eX]
                exact q2
            · rw [if_neg z2] at e1
              rw [tk_n z2, gR_l e1]
              exact rfl
        · rw [if_neg z1] at e1
          rw [tk_n z1, gR_l e1]
          exact rfl
  refine k τ11 (h11.re re) (re.gl ⟨fun k q => ?_, fun j R0 q => ?_⟩)
  · have q3 := l3.1 _ (gd_tk (t := t) (n := n) (y := 29) (by decide) (gd_an q))
    have q6 := l6.1 _ (gd_tk (t := t) (n := n) (y := 43) (by decide) ((gd_em (o := 13) (a := 0) q3).w (Nat.zero_le _) (Nat.le_refl _)))
    have q9 := gd_tk (t := t) (n := n) (y := 44) (by decide) ((gd_am (S := S) (f := lnR (gR e S vs (tkR t n 29 (anR R)))) (gd_em (o := 14) (a := 0) q6)).w (Nat.zero_le _) (Nat.le_refl _))
    exact (gd_am (l10.1 _ q9)).w (Nat.le_refl _) (by omega)
  · exact (lk_am (l10.2 _ R0 (lk_tk (lk_am (lk_em (l6.2 _ R0 (lk_tk (lk_em (l3.2 _ R0 (lk_tk (lk_an q))))))))))).w (by omega)
end E2

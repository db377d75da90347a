/-! THE CLASS: reading E; fail, show, let -/
section EQS
variable {t : Nat → Int32} {n S : Nat} {f : Pf} {vs : List (List Int32)} {p c p' c' : Nat} {es es' : Evs} {L : Cd} {b : Nat} {x : Ast} {q y : Nat} {env : Env} {e pp : Pf}
theorem gR_l (h : f vs p c = .inl q) : gR f S vs (.inr (p, c, es, L, b)) = .inl q := by
  unfold gR bdR
  dsimp only
  rw [h]
theorem gR_r (h : f vs p c = .inr (p', c', es', x)) : gR f S vs (.inr (p, c, es, L, b)) = .inr (p', c', es ++ es', L ++ cdB x false (S + L.length) b, 0) := by
  unfold gR bdR
  dsimp only
  rw [h]
theorem tk_y (h : tyS t n p = y) : tkR t n y (.inr (p, c, es, L, b)) = .inr (nxS t n p, c, es, L, b) := by
  unfold tkR bdR
  exact if_pos h
theorem tk_n (h : tyS t n p ≠ y) : tkR t n y (.inr (p, c, es, L, b)) = .inl p := by
  unfold tkR bdR
  exact if_neg h
theorem an_e : anR (.inr (p, c, es, L, b)) = .inr (p, c + 1, es ++ cnE c p, L, b + 1) := rfl
theorem em_e {o a : Int32} : emR o a (.inr (p, c, es, L, b)) = .inr (p, c, es, L ++ [(o, a, b)], 0) := rfl
theorem sgT_an (R : RR) : sgT t n (anR R) = sgT t n R := by
  rcases R with q | ⟨p, c, es, L, b⟩
  · rfl
  · rfl
theorem bnd_l {r : PR} {g : Nat → Nat → Evs → Ast → PR} (h : r = .inl q) : bnd r g = .inl q := by
  rw [h]
  rfl
theorem bnd_r {r : PR} {g : Nat → Nat → Evs → Ast → PR} (h : r = .inr (p, c, es, x)) : bnd r g = g p c es x := by
  rw [h]
  rfl
theorem pE_50 (h : tyS t n p = y) (hy : y = 50 ∨ y = 51) : pEb t n env e pp vs p c = bnd (e vs (nxS t n p) (c + 1)) fun p1 c1 es1 a => .inr (p1, c1, cnE c p ++ es1, aN (if y = 50 then 6 else 7) 0 0 a .nil .nil) := by
  unfold pEb
  rw [h, if_neg (by omega), if_neg (by omega), if_neg (by omega), if_neg (by omega), if_pos hy]
theorem pE_42 (h : tyS t n p = 42) : pEb t n env e pp vs p c = if tyS t n (nxS t n p) = 2 then
      (if tyS t n (nxS t n (nxS t n p)) = 14 then
        bnd (e vs (nxS t n (nxS t n (nxS t n p))) (c + 1)) fun p3 c3 es3 a =>
          if tyS t n p3 = 43 then bnd (e (vs ++ [nmS t n (nxS t n p)]) (nxS t n p3) c3) fun p4 c4 es4 b => .inr (p4, c4, cnE c p ++ es3 ++ es4, aN 1 vs.length 0 a b .nil)
          else .inl p3
      else .inl (nxS t n (nxS t n p)))
    else .inl (nxS t n p) := by
  unfold pEb
  rw [if_pos h]
/-- in another order -/
theorem re_app {p c : Nat} {es es' : Evs} {L L' : Cd} {b : Nat} (h : es = es') (hL : L = L') : RE (.inr (p, c, es, L, b)) (.inr (p, c, es', L', b)) := by
  rw [h, hL]
  exact RE.refl _
end EQS
section E1
variable {Z : zT} {d : Nat} {t : Nat → Int32} {n N : Nat} {B : Nat × Nat × Nat × Nat × Nat} {C : Nat × Nat × Nat × Nat} {W : Wld} {w : Int} {S : Nat} {σ0 : Sg} {vs : List (List Int32)} {R : RR} {σ τ : Sg} {K : kS} {e pp : Pf} {env : Env} {D D0 o : Nat}
theorem cl_e172 {y : Nat} (he : ∀ D, D0 ≤ D → FolC t n N B C W w S σ0 e vs (fun σ K => C_X7_readE_0 Z D σ (Int32.ofNat (o + 1)) K)) (hD : D0 + 3 ≤ D) (h : CSt t n N B C W w S σ0 vs R σ) (g : GD 0 (wK w) R) (hy : sgT t n R = y) (hy2 : y = 50 ∨ y = 51) (k : ∀ τ, CSt t n N B C W w S σ0 vs (gR (pEb t n env e pp) S vs R) τ → GL R (gR (pEb t n env e pp) S vs R) → K (.inl none) τ) : C_X7_readE_172 Z D σ (Int32.ofNat o) (if y = 50 then 20 else 21) K := by
  obtain ⟨d, rfl⟩ : ∃ d, D = d + 3 := ⟨D - 3, by omega⟩
  refine T_X7_readE_172 h.fx (cl_node h g.cp (fun τ1 h1 => cl_sign h1 ?_))
  show C_X7_take_0 Z (d + 2) τ1 (Int32.ofNat (sgT t n (anR R))) _
  rw [sgT_an, hy]
  refine cl_take (by omega) h1 (fun τ2 h2 => ?_)
  have g2 := gd_tk (t := t) (n := n) (y := y) (by omega) (gd_an g)
  show C_X7_readE_0 Z (d + 2) τ2 (Int32.ofNat o + 1) _
  rw [oN_1]
  refine he (d + 2) (by omega) _ τ2 _ h2 (g2.w (Nat.le_refl _) (by omega)) (fun τ3 h3 l3 => ?_)
  have g3 := l3.1 _ g2
  refine cl_emit h3 (fun p c L b e => by have := g3.pl p c L b e; omega) (fun τ4 h4 => ?_)
  have re : RE (emR (if y = 50 then 20 else 21) 0 (gR e S vs (tkR t n y (anR R)))) (gR (pEb t n env e pp) S vs R) := by
    rcases R with q | ⟨p, c, es, L, b⟩
    · have hy : 0 = y := hy
      omega
    · have hy : tyS t n p = y := hy
      have e1 := pE_50 (t := t) (n := n) (env := env) (e := e) (pp := pp) (vs := vs) (c := c) hy hy2
      rw [an_e, tk_y hy]
      cases hh : e vs (nxS t n p) (c + 1) with
      | inl q =>
        rw [bnd_l hh] at e1
        rw [gR_l hh, gR_l e1]
        exact rfl
      | inr x =>
        obtain ⟨p1, c1, es1, a⟩ := x
        rw [bnd_r hh] at e1
        rw [gR_r hh, gR_r e1, em_e]
        refine re_app (List.append_assoc ..) ?_
        rw [List.append_assoc]
        congr 1
        rcases hy2 with z | z
        · subst z
          rfl
        · subst z
          rfl
  exact k τ4 (h4.re re) (re.gl ⟨fun k q => (gd_em (l3.1 _ (gd_tk (by omega) (gd_an q)))).w (Nat.le_refl _) (by omega), fun j R0 q => (lk_em (l3.2 j R0 (lk_tk (lk_an q)))).w (by omega)⟩)
/-- the rest of let, of try -/
theorem cl_wv {i : Nat} (he : ∀ D, D0 ≤ D → FolC t n N B C W w S σ0 e (vs ++ [nmS t n (sgP t n i)]) (fun σ K => C_X7_readE_0 Z D σ (Int32.ofNat (o + 1)) K)) (hD : D0 + 3 ≤ D) (h : CSt t n N B C W w S σ0 vs R σ) (g : GD 0 (wK w + 1) R) (hi : i ≤ N) (hv : vs.length < 16) (hn : ∀ p c es L b, R = .inr (p, c, es, L, b) → tyS t n (sgP t n i) = 2) (k : ∀ τ, CSt t n N B C W w S σ0 vs (gR e S (vs ++ [nmS t n (sgP t n i)]) (emR 12 (Int32.ofNat vs.length) R)) τ → GL (emR 12 (Int32.ofNat vs.length) R) (gR e S (vs ++ [nmS t n (sgP t n i)]) (emR 12 (Int32.ofNat vs.length) R)) → K (.inl none) τ) : C_X7_readWithVariable_0 Z D σ (Int32.ofNat i) (Int32.ofNat o) K := by
  obtain ⟨d, rfl⟩ : ∃ d, D = d + 3 := ⟨D - 3, by omega⟩
  have e3 : σ.i 28 3 = Int32.ofNat vs.length := by
    rcases R with q | ⟨p, c, es, L, b⟩
    · exact h.2.2.2.1
    · exact h.2.2.2.1.1
  refine T_X7_readWithVariable_0 h.fx ?_
  rw [e3]
  refine cl_emit h (fun p c L b e => by have := g.pl p c L b e; omega) (fun τ1 h1 => ?_)
  have cb := h1.cb
  obtain ⟨fx, sa, ss, ⟨nn, hN1⟩, -⟩ := cb
  have hc := sa.2.2.2.2.2.2.2.2.2
  refine ⟨_, sa.2.2.1.1, _, sa.2.2.1.2, ib_oN (by omega) (by omega), _, sa.2.2.2.1.1, _, sa.2.2.2.1.2, ib_oN (by omega) (by omega), ?_⟩
  rw [oN_t (by omega), (ss.2.1 i hi).2.2.1, (ss.2.1 i hi).2.2.2]
  refine cl_addV (nm := nmS t n (sgP t n i)) h1 hv (fun p c es L b e => ?_) (fun τ2 h2 => ?_)
  · obtain ⟨p1, c1, es1, L1, b1, e1, -⟩ := bd_live e
    have z := hn _ _ _ _ _ e1
    refine ⟨?_, ?_, nm_ok z⟩
    · unfold hdS
      rw [if_pos (Or.inl z)]
    · unfold tlS
      rw [if_pos (Or.inl z)]
  · show C_X7_readE_0 Z (d + 2) τ2 (Int32.ofNat o + 1) _
    rw [oN_1]
    exact he (d + 2) (by omega) _ τ2 _ h2 ((gd_em g).w (Nat.le_refl _) (by omega)) (fun τ3 h3 l3 => k _ h3.vb l3)
theorem cl_let (hw : ∀ vs' D, vs'.length ≤ vs.length + 1 → D0 ≤ D → FolC t n N B C W w S σ0 e vs' (fun σ K => C_X7_readE_0 Z D σ (Int32.ofNat (o + 1)) K)) (hD : D0 + 4 ≤ D) (hv : vs.length < 16) (h : CSt t n N B C W w S σ0 vs R σ) (g : GD 0 (wK w) R) (hy : sgT t n R = 42) (k : ∀ τ, CSt t n N B C W w S σ0 vs (gR (pEb t n env e pp) S vs R) τ → GL R (gR (pEb t n env e pp) S vs R) → K (.inl none) τ) : C_X7_readLet_0 Z D σ (Int32.ofNat o) K := by
  obtain ⟨d, rfl⟩ : ∃ d, D = d + 3 := ⟨D - 3, by omega⟩
  refine T_X7_readLet_0 h.fx (cl_node h g.cp (fun τ1 h1 => cl_take (y := 42) (by decide) h1 (fun τ2 h2 => ?_)))
  have g2 := gd_tk (t := t) (n := n) (y := 42) (by decide) (gd_an g)
  obtain ⟨i, i1, i2, i3, i4⟩ := h2.pos
  refine cl_take (y := 2) (by decide) h2 (fun τ3 h3 => cl_take (y := 14) (by decide) h3 (fun τ4 h4 => ?_))
  have g4 := gd_tk (t := t) (n := n) (y := 14) (by decide) ((gd_tk (t := t) (n := n) (y := 2) (by decide) (g2.w (Nat.zero_le _) (Nat.le_refl _))).w (Nat.zero_le _) (Nat.le_refl _))
  show C_X7_readE_0 Z (d + 2) τ4 (Int32.ofNat o + 1) _
  rw [oN_1]
  refine hw vs (d + 2) (by omega) (by omega) _ τ4 _ h4 (g4.w (Nat.le_refl _) (by omega)) (fun τ5 h5 l5 => cl_take (y := 43) (by decide) h5 (fun τ6 h6 => ?_))
  have g6 := gd_tk (t := t) (n := n) (y := 43) (by decide) ((l5.1 _ g4).w (Nat.zero_le _) (Nat.le_refl _))
  show C_X7_readWithVariable_0 Z (d + 2) τ6 (τ2.i 40 3) (Int32.ofNat o) _
  rw [i2]
  refine cl_wv (fun D hD => hw _ D (by rw [List.length_append]; exact Nat.le_refl _) hD) (by omega) h6 (g6.w (Nat.le_refl _) (by omega)) i1 hv (fun p c es L b q => ?_) (fun τ7 h7 l7 => ?_)
  · obtain ⟨p1, c1, es1, L1, b1, e1, -⟩ := bd_live q
    obtain ⟨p2, c2, es2, L2, b2, e2, -⟩ := bd_live e1
    obtain ⟨p3, c3, es3, L3, b3, e3, -⟩ := bd_live e2
    obtain ⟨p4, c4, es4, L4, b4, e4, e5⟩ := bd_live e3
    rw [i4 _ _ _ _ _ e4]
    by_cases z : tyS t n p4 = 2
    · exact z
    · rw [if_neg z] at e5
      cases e5
  · have re : RE (gR e S (vs ++ [nmS t n (sgP t n i)]) (emR 12 (Int32.ofNat vs.length) (tkR t n 43 (gR e S vs (tkR t n 14 (tkR t n 2 (tkR t n 42 (anR R)))))))) (gR (pEb t n env e pp) S vs R) := by
      rcases R with q | ⟨p, c, es, L, b⟩
      · have hy : 0 = 42 := hy
        omega
      · have hy : tyS t n p = 42 := hy
        have ei : sgP t n i = nxS t n p := i4 (nxS t n p) (c + 1) (es ++ cnE c p) L (b + 1) (tk_y hy)
        have e1 := pE_42 (t := t) (n := n) (env := env) (e := e) (pp := pp) (vs := vs) (c := c) hy
        rw [an_e, tk_y hy, ei]
        by_cases z1 : tyS t n (nxS t n p) = 2
        · rw [if_pos z1] at e1
          rw [tk_y z1]
          by_cases z2 : tyS t n (nxS t n (nxS t n p)) = 14
          · rw [if_pos z2] at e1
            rw [tk_y z2]
            cases hh : e vs (nxS t n (nxS t n (nxS t n p))) (c + 1) with
            | inl q =>
              rw [bnd_l hh] at e1
              rw [gR_l hh, gR_l e1]
              exact rfl
            | inr x =>
              obtain ⟨p1, c1, es1, a⟩ := x
              rw [bnd_r hh] at e1
              rw [gR_r hh]
              by_cases z3 : tyS t n p1 = 43
              · rw [if_pos z3] at e1
                rw [tk_y z3, em_e]
                cases hk : e (vs ++ [nmS t n (nxS t n p)]) (nxS t n p1) c1 with
                | inl q =>
                  rw [bnd_l hk] at e1
                  rw [gR_l hk, gR_l e1]
                  exact rfl
                | inr x =>
                  obtain ⟨p2, c2, es2, a2⟩ := x
                  rw [bnd_r hk] at e1
                  rw [gR_r hk, gR_r e1]
                  refine re_app (by simp only [List.append_assoc]) ?_
                  show L ++ cdB a false (S + L.length) (b + 1) ++ [(12, Int32.ofNat vs.length, 0)] ++ cdB a2 false (S + (L ++ cdB a false (S + L.length) (b + 1) ++ [(12, Int32.ofNat vs.length, 0)]).length) 0 = L ++ (cdB a false (S + L.length) (b + 1) ++ (12, Int32.ofInt (vs.length : Int), 0) :: cdB a2 false (S + L.length + (cdB a false (S + L.length) (b + 1)).length + 1) 0)
                  rw [List.length_append, List.length_append, List.append_assoc, List.append_assoc, ← Nat.add_assoc, ← Nat.add_assoc]
                  rfl
              · rw [if_neg z3] at e1
                rw [tk_n z3, gR_l e1]
                exact rfl
          · rw [if_neg z2] at e1
            rw [tk_n z2, gR_l e1]
            exact rfl
        · rw [if_neg z1] at e1
          rw [tk_n z1, gR_l e1]
          exact rfl
    refine k τ7 (h7.re re) (re.gl ⟨fun k q => ?_, fun j R0 q => ?_⟩)
    · have q4 := gd_tk (t := t) (n := n) (y := 14) (by decide) ((gd_tk (t := t) (n := n) (y := 2) (by decide) ((gd_tk (t := t) (n := n) (y := 42) (by decide) (gd_an q)).w (Nat.zero_le _) (Nat.le_refl _))).w (Nat.zero_le _) (Nat.le_refl _))
      have q6 := gd_tk (t := t) (n := n) (y := 43) (by decide) ((l5.1 _ q4).w (Nat.zero_le _) (Nat.le_refl _))
      exact (l7.1 _ (gd_em q6)).w (Nat.le_refl _) (by omega)
    · exact (l7.2 _ R0 (lk_em (lk_tk (l5.2 _ R0 (lk_tk (lk_tk (lk_tk (lk_an q)))))))).w (by omega)
end E1

/-! THE CLASS: reading names, next -/
section PQ
variable {t : Nat → Int32} {n : Nat} {env : Env} {e pp : Pf} {vs : List (List Int32)} {p c : Nat}
theorem pP_call (h : tyS t n p = 2) (h4 : tyS t n (nxS t n p) = 4) : pPb t n env e pp vs p c = pAN t n e (match env.1 (nmS t n p) with
        | some _ => 1
        | none => match env.2.1 (nmS t n p) with
          | some k => env.2.2.2.2.1 k
          | none => 0) vs (nxS t n p) (c + 1) (cnE c p ++ (match env.1 (nmS t n p) with
        | some k => if env.2.2.2.1 k = true then [(p, 6)] else []
        | none => match env.2.1 (nmS t n p) with
          | some _ => []
          | none => [(p, 3)])) (match env.1 (nmS t n p) with
        | some _ => 13
        | none => 14) (match env.1 (nmS t n p) with
        | some k => k
        | none => idx (env.2.1 (nmS t n p))) := by
  unfold pPb
  rw [if_neg (by omega), if_pos h, if_pos h4]
  rfl
theorem pP_var (h : tyS t n p = 2) (h4 : ¬ tyS t n (nxS t n p) = 4) : pPb t n env e pp vs p c = .inr (nxS t n p, c + 1, cnE c p ++ (if lstI vs (nmS t n p) = none then [(p, 3)] else []), aN 12 (idx (lstI vs (nmS t n p))) 0 .nil .nil .nil) := by
  unfold pPb
  rw [if_neg (by omega), if_pos h, if_neg h4]
theorem pP_nx (h : tyS t n p = 52) : pPb t n env e pp vs p c = if tyS t n (nxS t n p) = 4 then pAN t n e (if 0 ≤ env.2.2.2.2.2 then env.2.2.2.2.1 env.2.2.2.2.2.toNat else 0) vs (nxS t n p) (c + 1) (cnE c p ++ (if env.2.2.2.2.2 = -1 then [(p, 3)] else [])) 15 0
    else .inr (nxS t n p, c + 1, cnE c p ++ (if env.2.2.2.2.2 = -1 then [(p, 3)] else []), aN 15 0 0 .nil .nil .nil) := by
  unfold pPb
  rw [if_neg (by omega), if_neg (by omega), if_pos h]
end PQ
section NM
variable {Z : zT} {d : Nat} {t : Nat → Int32} {n N : Nat} {B : Nat × Nat × Nat × Nat × Nat} {C : Nat × Nat × Nat × Nat} {W : Wld} {w : Int} {S : Nat} {σ0 : Sg} {vs : List (List Int32)} {R : RR} {σ τ : Sg} {K : kS} {e pp f : Pf} {D D0 o most : Nat}
section NM1
variable {p c : Nat} {es evs : Evs} {L : Cd} {b op y : Nat} {v : Int}
theorem gd_nm {k : Nat} (hy : tyS t n p = y) (hy2 : 2 ≤ y) (g : GD 0 k (.inr (p, c, es, L, b))) : GD 0 (k + 3) (.inr (nxS t n p, c + 1, es ++ (cnE c p ++ evs), L, b + 1)) := fun p' c' es' L' b' q => by
  obtain ⟨rfl, rfl, rfl, rfl, rfl⟩ := rr_inj q
  obtain ⟨g1, g2⟩ := g _ _ _ _ _ rfl
  have := ty_nx (t := t) (n := n) (p := p) (by omega)
  exact ⟨by omega, fun z => by have := g2 (List.append_eq_nil_iff.mp z).1; omega⟩
theorem lk_nm {j : Nat} {R1 : RR} (g : LeK j R1 (.inr (p, c, es, L, b))) : LeK j R1 (.inr (nxS t n p, c + 1, es ++ (cnE c p ++ evs), L, b + 1)) := fun p' c' L' b' q => by
  obtain ⟨rfl, rfl, e3, rfl, rfl⟩ := rr_inj q
  have := (List.append_eq_nil_iff.mp e3).1
  subst this
  exact g _ _ _ _ rfl
theorem cl_nmF (he : ∀ D, D0 ≤ D → FolC t n N B C W w S σ0 e vs (fun σ K => C_X7_readE_0 Z D σ (Int32.ofNat (o + 1)) K)) (hD : D0 + 3 ≤ D) (hb : ∀ vs p c p' c' es x, e vs p c = .inr (p', c', es, x) → p ≤ p') (hm : most ≤ 3) (hop : op = 13 ∨ op = 14 ∨ op = 15) (h1 : es ++ (cnE c p ++ evs) = [] → 1 ≤ most) (hy : tyS t n p = y) (hy2 : 2 ≤ y) (h4 : tyS t n (nxS t n p) = 4) (eq : f vs p c = pAN t n e most vs (nxS t n p) (c + 1) (cnE c p ++ evs) op v) (g : GD 0 (wK w) (.inr (p, c, es, L, b))) (k : ∀ τ, CSt t n N B C W w S σ0 vs (gR f S vs (.inr (p, c, es, L, b))) τ → GL (.inr (p, c, es, L, b)) (gR f S vs (.inr (p, c, es, L, b))) → K (.inl none) τ) (h : CSt t n N B C W w S σ0 vs (.inr (nxS t n p, c + 1, es ++ (cnE c p ++ evs), L, b + 1)) σ) : C_X7_readArguments_0 Z D σ (wnI most) (Int32.ofNat o) (yN K fun τ1 => C_X1_emit_0 Z D τ1 (agO op v).1 (agO op v).2.1 (yN K fun τ3 => K (.inl none) τ3)) := by
  have e1 : gR f S vs (.inr (p, c, es, L, b)) = agN t n e S most vs (nxS t n p) (c + 1) es (cnE c p ++ evs) L b op v := by
    unfold gR bdR agN
    dsimp only
    rw [eq]
    rfl
  rw [e1] at k
  refine cl_argN he hD hb hm hop h1 h h4 ((gd_nm hy hy2 g).w (Nat.le_refl _) (by omega)) (fun τ hτ gg ll => k τ hτ ⟨fun k q => (gg _ (gd_nm hy hy2 q)).w (Nat.le_refl _) (by omega), fun j R0 q => (ll _ R0 (lk_nm q)).w (by omega)⟩)
end NM1
theorem idx_s (k : Nat) : Int32.ofInt (idx (some k)) = Int32.ofNat k := rfl
theorem cl_named {p c : Nat} {es : Evs} {L : Cd} {b : Nat} (he : ∀ D, D0 ≤ D → FolC t n N B C W w S σ0 e vs (fun σ K => C_X7_readE_0 Z D σ (Int32.ofNat (o + 1)) K)) (hD : D0 + 4 ≤ D) (hb : ∀ vs p c p' c' es x, e vs p c = .inr (p', c', es, x) → p ≤ p') (h : CSt t n N B C W w S σ0 vs (.inr (p, c, es, L, b)) σ) (g : GD 0 (wK w) (.inr (p, c, es, L, b))) (hy : tyS t n p = 2) (k : ∀ τ, CSt t n N B C W w S σ0 vs (gR (pPb t n (enW W.1 W.2.1 W.2.2.1 w) e pp) S vs (.inr (p, c, es, L, b))) τ → GL (.inr (p, c, es, L, b)) (gR (pPb t n (enW W.1 W.2.1 W.2.2.1 w) e pp) S vs (.inr (p, c, es, L, b))) → K (.inl none) τ) : C_X7_readNamed_0 Z D σ (Int32.ofNat o) K := by
  obtain ⟨d, rfl⟩ : ∃ d, D = d + 3 := ⟨D - 3, by omega⟩
  obtain ⟨i, i1, i2, i3, i4⟩ := h.pos
  have ei := i4 p c es L b rfl
  have cb := h.cb
  obtain ⟨fx, sa, ss, ⟨nn, hN1⟩, -⟩ := cb
  have hc := sa.2.2.2.2.2.2.2.2.2
  have hd : σ.l B.2.2.2.1 ((σ.i 40 3).toNatClampNeg) = nmH (nmS t n p) := by
    rw [i2, oN_t (by omega), (ss.2.1 i i1).2.2.1]
    unfold hdS
    rw [ei, if_pos (Or.inl hy)]
  have tl : σ.l B.2.2.2.2 ((σ.i 40 3).toNatClampNeg) = nmT (nmS t n p) := by
    rw [i2, oN_t (by omega), (ss.2.1 i i1).2.2.2]
    unfold tlS
    rw [ei, if_pos (Or.inl hy)]
  refine T_X7_readNamed_0 h.fx ⟨_, sa.2.2.1.1, _, sa.2.2.1.2, by rw [i2]; exact ib_oN (by omega) (by omega), _, sa.2.2.2.1.1, _, sa.2.2.2.1.2, by rw [i2]; exact ib_oN (by omega) (by omega), ?_⟩
  rw [hd, tl]
  refine cl_node h g.cp (fun τ1 h1 => cl_take (y := 2) (by decide) h1 (fun τ2 h2 => cl_sign h2 ?_))
  rw [an_e, tk_y hy] at h2
  have eS : sgT t n (tkR t n 2 (anR (.inr (p, c, es, L, b)))) = tyS t n (nxS t n p) := by
    rw [an_e, tk_y hy]
    rfl
  rw [eS]
  have tb : tyS t n (nxS t n p) ≤ 52 := ty_b
  have nk := nm_ok hy
  have cb2 := h2.cb
  obtain ⟨-, -, -, -, -, -, -, ⟨a1, a2, a3, a4, a5⟩, ⟨c1, c2, c3, c4, c5⟩, -⟩ := cb2
  have el : (W.1.map (·.1)).length = W.1.length := List.length_map ..
  have el2 : (W.2.1.map (·.1)).length = W.2.1.length := List.length_map ..
  -- rules more
  have brk : ∀ (r : Nat) (K' : kS), 1 ≤ r ∧ r ≤ 7 → (∀ τ, CSt t n N B C W w S σ0 vs (.inr (nxS t n p, c + 1, es ++ (cnE c p ++ [(p, r)]), L, b + 1)) τ → K' (.inl none) τ) → C_X7_breakRule_0 Z (d + 2) τ2 (Int32.ofNat r) (σ.i 40 3) K' := fun r K' hr kk => by
    rw [i2]
    refine cl_break h2 i1 hr (fun τ hτ => kk τ ?_)
    rw [ei] at hτ
    rw [← List.append_assoc]
    exact hτ
  have h2' : CSt t n N B C W w S σ0 vs (.inr (nxS t n p, c + 1, es ++ (cnE c p ++ []), L, b + 1)) τ2 := by
    rw [List.append_nil]
    exact h2
  refine ⟨fun z => ?_, fun z => ?_⟩
  · have z : tyS t n (nxS t n p) = 4 := (oN_eq (b := 4) (by omega) (by decide)).mp z
    have ep := pP_call (t := t) (n := n) (env := enW W.1 W.2.1 W.2.2.1 w) (e := e) (pp := pp) (vs := vs) (c := c) hy z
    have ek : (enW W.1 W.2.1 W.2.2.1 w).1 (nmS t n p) = lstI (W.1.map (·.1)) (nmS t n p) := fi_lst a4 _
    have ec : (enW W.1 W.2.1 W.2.2.1 w).2.1 (nmS t n p) = lstI (W.2.1.map (·.1)) (nmS t n p) := fi_lst c4 _
    rw [ek, ec] at ep
    refine cl_findN (s := 0) (o := 0) (ns := W.1.map (·.1)) h2.fx xJ_0.1 (by decide) (by rw [el]; exact a1) (by omega) a3 nk ?_
    refine cl_findN (s := 1) (o := 24) (ns := W.2.1.map (·.1)) h2.fx xJ_0.2.1 (by decide) (by rw [el2]; exact c1) (by omega) c3 nk ?_
    cases hk : lstI (W.1.map (·.1)) (nmS t n p) with
    | some k1 =>
      have k2 := lstI_lt hk
      rw [el] at k2
      rw [hk] at ep
      have hbare := a5 k1 _ (List.getElem?_eq_getElem k2)
      have hb2 : (enW W.1 W.2.1 W.2.2.1 w).2.2.2.1 k1 = (W.1[k1]).2.1 := by
        show ((W.1[k1]?).map (·.2.1)).getD false = _
        rw [List.getElem?_eq_getElem k2]
        rfl
      rw [idx_s]
      refine ⟨fun y => absurd y ?_, fun _ => ⟨ib_oN (by omega) (by omega), ?_⟩⟩
      · rw [show (0 : Int32) = Int32.ofNat 0 from rfl, oN_lt (by omega) (by decide)]
        omega
      · rw [oN_t (by omega), hbare]
        by_cases zb : (W.1[k1]).2.1 = true
        · rw [if_pos zb]
          refine ⟨fun y => absurd y (by decide), fun _ => brk 6 _ (by decide) (fun τ3 h3 => T_X7_readNamed_146 h3.fx ?_)⟩
          have ep' : pPb t n (enW W.1 W.2.1 W.2.2.1 w) e pp vs p c = pAN t n e 1 vs (nxS t n p) (c + 1) (cnE c p ++ [(p, 6)]) 13 (k1 : Int) := by
            rw [ep]
            dsimp only
            rw [hb2, if_pos zb]
          exact cl_nmF (most := 1) (op := 13) (v := (k1 : Int)) (f := pPb t n (enW W.1 W.2.1 W.2.2.1 w) e pp) he (by omega) hb (by decide) (Or.inl rfl) (fun _ => by decide) hy (by decide) z ep' g k h3
        · rw [if_neg zb]
          refine ⟨fun _ => T_X7_readNamed_146 h2.fx ?_, fun y => absurd rfl y⟩
          have ep' : pPb t n (enW W.1 W.2.1 W.2.2.1 w) e pp vs p c = pAN t n e 1 vs (nxS t n p) (c + 1) (cnE c p ++ []) 13 (k1 : Int) := by
            rw [ep]
            dsimp only
            rw [hb2, if_neg zb]
          exact cl_nmF (most := 1) (op := 13) (v := (k1 : Int)) (f := pPb t n (enW W.1 W.2.1 W.2.2.1 w) e pp) he (by omega) hb (by decide) (Or.inl rfl) (fun _ => by decide) hy (by decide) z ep' g k h2'
    | none =>
      rw [hk] at ep
      refine ⟨fun _ => ?_, fun y => absurd (by decide) y⟩
      cases hl : lstI (W.2.1.map (·.1)) (nmS t n p) with
      | some k1 =>
        have k2 := lstI_lt hl
        rw [el2] at k2
        rw [hl] at ep
        obtain ⟨p1, p2⟩ := c5 k1 _ (List.getElem?_eq_getElem k2)
        have hpl : (enW W.1 W.2.1 W.2.2.1 w).2.2.2.2.1 k1 = (W.2.1[k1]).2.1 := by
          show ((W.2.1[k1]?).map (·.2.1)).getD 0 = _
          rw [List.getElem?_eq_getElem k2]
          rfl
        have ep' : pPb t n (enW W.1 W.2.1 W.2.2.1 w) e pp vs p c = pAN t n e (W.2.1[k1]).2.1 vs (nxS t n p) (c + 1) (cnE c p ++ []) 14 (k1 : Int) := by
          rw [ep]
          dsimp only
          rw [hpl]
          rfl
        have nn0 : (0 : Int32) ≤ Int32.ofNat k1 := by
          rw [show (0 : Int32) = Int32.ofNat 0 from rfl, oN_le (by decide) (by omega)]
          omega
        rw [idx_s]
        refine ⟨fun _ => T_X7_readNamed_179 h2.fx ⟨fun _ => ⟨ib_oN (by omega) (by omega), ?_⟩, fun y => absurd nn0 y⟩, fun y => absurd nn0 y⟩
        rw [oN_t (by omega), p1]
        have ew : Int32.ofNat (W.2.1[k1]).2.1 = wnI (W.2.1[k1]).2.1 := by
          unfold wnI
          rw [if_neg (by omega)]
        rw [ew]
        exact cl_nmF (op := 14) (v := (k1 : Int)) (f := pPb t n (enW W.1 W.2.1 W.2.2.1 w) e pp) he (by omega) hb p2.2 (Or.inr (Or.inl rfl)) (fun _ => p2.1) hy (by decide) z ep' g k h2'
      | none =>
        rw [hl] at ep
        have ep' : pPb t n (enW W.1 W.2.1 W.2.2.1 w) e pp vs p c = pAN t n e 0 vs (nxS t n p) (c + 1) (cnE c p ++ [(p, 3)]) 14 (-1) := ep
        refine ⟨fun y => absurd y (by decide), fun _ => brk 3 _ (by decide) (fun τ3 h3 => T_X7_readNamed_179 h3.fx ⟨fun y => absurd y (by decide), fun _ => ?_⟩)⟩
        exact cl_nmF (most := 0) (op := 14) (v := -1) (f := pPb t n (enW W.1 W.2.1 W.2.2.1 w) e pp) he (by omega) hb (by decide) (Or.inr (Or.inl rfl)) (fun q => absurd q (by simp)) hy (by decide) z ep' g k h3
  · have z : ¬ tyS t n (nxS t n p) = 4 := fun y => z (by rw [y]; rfl)
    have ep := pP_var (t := t) (n := n) (env := enW W.1 W.2.1 W.2.2.1 w) (e := e) (pp := pp) (vs := vs) (c := c) hy z
    have v1 := h2.2.2.2.1
    refine cl_findN (s := 3) (o := 56) (ns := vs) h2.fx xJ_0.2.2.2 (by decide) v1.1 (by have := v1.2.1; omega) v1.2.2 nk ?_
    have fin : ∀ τ3 (evs : Evs), evs = (if lstI vs (nmS t n p) = none then [(p, 3)] else []) → CSt t n N B C W w S σ0 vs (.inr (nxS t n p, c + 1, es ++ (cnE c p ++ evs), L, b + 1)) τ3 → C_X1_emit_0 Z (d + 2) τ3 1 (Int32.ofInt (idx (lstI vs (nmS t n p)))) (yN K fun τ32 => K (.inl none) τ32) := fun τ3 evs ee h3 => by
      have g3 := gd_nm (evs := evs) hy (by decide) g
      refine cl_emit h3 (fun p c L b e => by have := g3.pl p c L b e; omega) (fun τ4 h4 => ?_)
      have re : RE (emR 1 (Int32.ofInt (idx (lstI vs (nmS t n p)))) (.inr (nxS t n p, c + 1, es ++ (cnE c p ++ evs), L, b + 1))) (gR (pPb t n (enW W.1 W.2.1 W.2.2.1 w) e pp) S vs (.inr (p, c, es, L, b))) := by
        rw [gR_r ep, em_e, ee]
        exact re_app rfl rfl
      exact k τ4 (h4.re re) (re.gl ⟨fun k q => (gd_em (gd_nm hy (by decide) q)).w (Nat.le_refl _) (by omega), fun j R0 q => (lk_em (lk_nm q)).w (by omega)⟩)
    cases hl : lstI vs (nmS t n p) with
    | some k1 =>
      have k2 := lstI_lt hl
      have := v1.2.1
      have nn0 : (0 : Int32) ≤ Int32.ofInt (idx (some k1)) := by
        rw [idx_s, show (0 : Int32) = Int32.ofNat 0 from rfl, oN_le (by decide) (by omega)]
        omega
      rw [hl] at fin
      exact ⟨fun _ => fin τ2 [] rfl h2', fun y => absurd nn0 y⟩
    | none =>
      rw [hl] at fin
      exact ⟨fun y => absurd y (by decide), fun _ => brk 3 _ (by decide) (fun τ3 h3 => fin τ3 [(p, 3)] rfl h3)⟩
end NM

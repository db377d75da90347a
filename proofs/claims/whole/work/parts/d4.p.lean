/-! THE CLASS: reading next, P; E and P whole -/
section NX
variable {Z : zT} {d : Nat} {t : Nat → Int32} {n N : Nat} {B : Nat × Nat × Nat × Nat × Nat} {C : Nat × Nat × Nat × Nat} {W : Wld} {w : Int} {S : Nat} {σ0 : Sg} {vs : List (List Int32)} {R : RR} {σ τ : Sg} {K : kS} {e pp f : Pf} {D D0 o most : Nat}
theorem cl_next16 {p c : Nat} {es evs : Evs} {L : Cd} {b : Nat} (he : ∀ D, D0 ≤ D → FolC t n N B C W w S σ0 e vs (fun σ K => C_X7_readE_0 Z D σ (Int32.ofNat (o + 1)) K)) (hD : D0 + 4 ≤ D) (hb : ∀ vs p c p' c' es x, e vs p c = .inr (p', c', es, x) → p ≤ p') (hev : evs = if w = -1 then [(p, 3)] else []) (h : CSt t n N B C W w S σ0 vs (.inr (p, c, es ++ evs, L, b)) σ) (g : GD 0 (wK w) (.inr (p, c, es, L, b))) (hy : tyS t n p = 52) (k : ∀ τ, CSt t n N B C W w S σ0 vs (gR (pPb t n (enW W.1 W.2.1 W.2.2.1 w) e pp) S vs (.inr (p, c, es, L, b))) τ → GL (.inr (p, c, es, L, b)) (gR (pPb t n (enW W.1 W.2.1 W.2.2.1 w) e pp) S vs (.inr (p, c, es, L, b))) → K (.inl none) τ) : C_X7_readNext_16 Z D σ (Int32.ofNat o) K := by
  obtain ⟨d, rfl⟩ : ∃ d, D = d + 3 := ⟨D - 3, by omega⟩
  have gc : ∀ p' c' es' L' b', (.inr (p, c, es ++ evs, L, b) : RR) = .inr (p', c', es', L', b') → c' ≤ p' := fun p' c' es' L' b' q => by
    obtain ⟨rfl, rfl, -, -, -⟩ := rr_inj q
    exact g.cp _ _ _ _ _ rfl
  refine T_X7_readNext_16 h.fx (cl_node h gc (fun τ1 h1 => cl_take (y := 52) (by decide) h1 (fun τ2 h2 => cl_sign h2 ?_)))
  have eS : sgT t n (tkR t n 52 (anR (.inr (p, c, es ++ evs, L, b)))) = tyS t n (nxS t n p) := by
    rw [an_e, tk_y hy]
    rfl
  rw [eS]
  rw [an_e, tk_y hy] at h2
  have h3 : CSt t n N B C W w S σ0 vs (.inr (nxS t n p, c + 1, es ++ (cnE c p ++ evs), L, b + 1)) τ2 := h2.re ⟨rfl, rfl, fun x => by
    simp only [List.mem_append]
    constructor
    · rintro ((q | q) | q)
      · exact Or.inl q
      · exact Or.inr (Or.inr q)
      · exact Or.inr (Or.inl q)
    · rintro (q | q | q)
      · exact Or.inl (Or.inl q)
      · exact Or.inr q
      · exact Or.inl (Or.inr q), fun _ => ⟨rfl, rfl⟩⟩
  have tb : tyS t n (nxS t n p) ≤ 52 := ty_b
  have ep := pP_nx (t := t) (n := n) (env := enW W.1 W.2.1 W.2.2.1 w) (e := e) (pp := pp) (vs := vs) (c := c) hy
  have eo : (enW W.1 W.2.1 W.2.2.1 w).2.2.2.2.2 = w := rfl
  rw [eo, ← hev] at ep
  have c3 := h.2.2.2.2.1.2.2
  have cb2 := h3.cb
  obtain ⟨-, -, -, -, -, -, -, -, ⟨c1, c2, -, c4, c5⟩, -, ⟨o1, o2, o3, o4⟩, -⟩ := cb2
  refine ⟨fun z => ?_, fun z => ?_⟩
  · have z : ¬ tyS t n (nxS t n p) = 4 := fun y => z (by rw [y]; rfl)
    rw [if_neg z] at ep
    have g3 := gd_nm (evs := evs) hy (by decide) g
    refine cl_emit h3 (fun p c L b e => by have := g3.pl p c L b e; omega) (fun τ4 h4 => ?_)
    have re : RE (emR 23 0 (.inr (nxS t n p, c + 1, es ++ (cnE c p ++ evs), L, b + 1))) (gR (pPb t n (enW W.1 W.2.1 W.2.2.1 w) e pp) S vs (.inr (p, c, es, L, b))) := by
      rw [gR_r ep, em_e]
      exact re_app rfl rfl
    exact k τ4 (h4.re re) (re.gl ⟨fun k q => (gd_em (gd_nm hy (by decide) q)).w (Nat.le_refl _) (by omega), fun j R0 q => (lk_em (lk_nm q)).w (by omega)⟩)
  · have z : tyS t n (nxS t n p) = 4 := (oN_eq (b := 4) (by omega) (by decide)).mp z
    rw [if_pos z] at ep
    rw [o2]
    by_cases zw : w < 0
    · rw [if_pos zw]
      rw [if_neg (by omega)] at ep
      refine ⟨fun y => absurd y (by decide), fun _ => ?_⟩
      refine cl_nmF (most := 0) (op := 15) (v := 0) (f := pPb t n (enW W.1 W.2.1 W.2.2.1 w) e pp) he (by omega) hb (by decide) (Or.inr (Or.inr rfl)) (fun q => ?_) hy (by decide) z ep g k h3
      exfalso
      obtain ⟨q1, q2⟩ := List.append_eq_nil_iff.mp q
      obtain ⟨-, q3⟩ := List.append_eq_nil_iff.mp q2
      by_cases z1 : w = -1
      · rw [q3, if_pos z1] at hev
        cases hev
      · have z2 : w = -2 := by omega
        have gg := (g _ _ _ _ _ rfl).2 q1
        unfold wK at gg
        rw [if_pos z2] at gg
        by_cases y : 300 < c
        · obtain ⟨x, x1, -⟩ := c3 y
          rw [q1, q3] at x1
          cases x1
        · omega
    · rw [if_neg zw]
      have wn : (w.toNat : Int) = w := Int.toNat_of_nonneg (by omega)
      have k2 : w.toNat < W.2.1.length := by omega
      have ew : Int32.ofInt w = Int32.ofNat w.toNat := oI_nn (by omega)
      have nn0 : (0 : Int32) ≤ Int32.ofNat w.toNat := by
        rw [show (0 : Int32) = Int32.ofNat 0 from rfl, oN_le (by decide) (by omega)]
        omega
      obtain ⟨p1, p2⟩ := c5 w.toNat _ (List.getElem?_eq_getElem k2)
      have hpl : (enW W.1 W.2.1 W.2.2.1 w).2.2.2.2.1 w.toNat = (W.2.1[w.toNat]).2.1 := by
        show ((W.2.1[w.toNat]?).map (·.2.1)).getD 0 = _
        rw [List.getElem?_eq_getElem k2]
        rfl
      rw [if_pos (by omega), hpl] at ep
      rw [ew]
      refine ⟨fun _ => ⟨ib_oN (by omega) (by omega), ?_⟩, fun y => absurd nn0 y⟩
      rw [oN_t (by omega), p1]
      have ewn : Int32.ofNat (W.2.1[w.toNat]).2.1 = wnI (W.2.1[w.toNat]).2.1 := by
        unfold wnI
        rw [if_neg (by omega)]
      rw [ewn]
      exact cl_nmF (op := 15) (v := 0) (f := pPb t n (enW W.1 W.2.1 W.2.2.1 w) e pp) he (by omega) hb p2.2 (Or.inr (Or.inr rfl)) (fun _ => p2.1) hy (by decide) z ep g k h3
theorem cl_next {p c : Nat} {es : Evs} {L : Cd} {b : Nat} (he : ∀ D, D0 ≤ D → FolC t n N B C W w S σ0 e vs (fun σ K => C_X7_readE_0 Z D σ (Int32.ofNat (o + 1)) K)) (hD : D0 + 4 ≤ D) (hb : ∀ vs p c p' c' es x, e vs p c = .inr (p', c', es, x) → p ≤ p') (h : CSt t n N B C W w S σ0 vs (.inr (p, c, es, L, b)) σ) (g : GD 0 (wK w) (.inr (p, c, es, L, b))) (hy : tyS t n p = 52) (k : ∀ τ, CSt t n N B C W w S σ0 vs (gR (pPb t n (enW W.1 W.2.1 W.2.2.1 w) e pp) S vs (.inr (p, c, es, L, b))) τ → GL (.inr (p, c, es, L, b)) (gR (pPb t n (enW W.1 W.2.1 W.2.2.1 w) e pp) S vs (.inr (p, c, es, L, b))) → K (.inl none) τ) : C_X7_readNext_0 Z D σ (Int32.ofNat o) K := by
  have hD' := hD
  obtain ⟨d, rfl⟩ : ∃ d, D = d + 3 := ⟨D - 3, by omega⟩
  have o1 := h.cb.2.2.2.2.2.2.2.2.2.2.1.1
  refine T_X7_readNext_0 h.fx ?_
  rw [o1]
  by_cases z : w = -1
  · rw [if_pos z]
    refine ⟨fun y => absurd rfl y, fun _ => cl_breakP (rule := 3) h (by decide) (fun τ1 h1 => ?_)⟩
    exact cl_next16 he hD' hb (evs := [(p, 3)]) (by rw [if_pos z]) h1 g hy k
  · rw [if_neg z]
    refine ⟨fun _ => ?_, fun y => absurd y (by decide)⟩
    exact cl_next16 he hD' hb (evs := []) (by rw [if_neg z]) (by rw [List.append_nil]; exact h) g hy k
end NX
section PW
variable {Z : zT} {d : Nat} {t : Nat → Int32} {n N : Nat} {B : Nat × Nat × Nat × Nat × Nat} {C : Nat × Nat × Nat × Nat} {W : Wld} {w : Int} {S : Nat} {σ0 : Sg} {vs : List (List Int32)} {R : RR} {σ τ : Sg} {K : kS} {e pp f : Pf} {D D0 o most : Nat}
theorem pP_no {env : Env} {p c : Nat} (h : ¬ tyS t n p = 2 ∧ ¬ tyS t n p = 3 ∧ ¬ tyS t n p = 4 ∧ ¬ tyS t n p = 10 ∧ ¬ tyS t n p = 13 ∧ ¬ tyS t n p = 52) : pPb t n env e pp vs p c = .inl p := by
  unfold pPb
  rw [if_neg (by omega), if_neg (by omega), if_neg (by omega), if_neg (by omega), if_neg (by omega)]
theorem pP_13 {env : Env} {p c : Nat} (h : tyS t n p = 13) : pPb t n env e pp vs p c = bnd (pp vs (nxS t n p) (c + 1)) fun p1 c1 es1 a => .inr (p1, c1, cnE c p ++ es1, aN 16 0 0 a .nil .nil) := by
  unfold pPb
  rw [if_neg (by omega), if_neg (by omega), if_neg (by omega), if_pos h]
theorem pP_4 {env : Env} {p c : Nat} (h : tyS t n p = 4) : pPb t n env e pp vs p c = bnd (e vs (nxS t n p) c) fun p1 c1 es1 a => if tyS t n p1 = 5 then .inr (nxS t n p1, c1, es1, a) else .inl p1 := by
  unfold pPb
  rw [if_neg (by omega), if_neg (by omega), if_neg (by omega), if_neg (by omega), if_pos h]
theorem pP_3 {env : Env} {p c : Nat} (h : tyS t n p = 3 ∨ tyS t n p = 10) : pPb t n env e pp vs p c = match pSg t n p with
    | .inl q => .inl q
    | .inr (v, p1) => .inr (p1, c + 1, cnE c p, aN 11 v 0 .nil .nil .nil) := by
  unfold pPb
  rw [if_pos h]
  rfl
/-- a number -/
theorem cl_pnum {env : Env} (h : CSt t n N B C W w S σ0 vs R σ) (g : GD 0 (wK w) R) (hy : sgT t n R = 3 ∨ sgT t n R = 10) (k : ∀ τ, CSt t n N B C W w S σ0 vs (gR (pPb t n env e pp) S vs R) τ → GL R (gR (pPb t n env e pp) S vs R) → K (.inl none) τ) : C_X7_addNode_0 Z (d + 2) σ (σ.i 40 3) (σ.i 24 3) (yN K fun τ6 => C_X7_takeNumber_0 Z (d + 2) τ6 (yI K fun v10 τ8 => C_X1_emit_0 Z (d + 2) τ8 0 v10 (yN K fun τ11 => K (.inl none) τ11))) := by
  refine cl_node h g.cp (fun τ1 h1 => cl_number2 h1 (fun τ2 v hv h2 => ?_))
  have g2 := gd_nu (t := t) (n := n) (gd_an g)
  refine cl_emit h2 (fun p c L b e => by have := g2.pl p c L b e; omega) (fun τ3 h3 => ?_)
  have re : RE (emR 0 v (nuR t n (anR R))) (gR (pPb t n env e pp) S vs R) := by
    rcases R with q | ⟨p, c, es, L, b⟩
    · have hy : 0 = 3 ∨ 0 = 10 := hy
      omega
    · have hy : tyS t n p = 3 ∨ tyS t n p = 10 := hy
      have e1 := pP_3 (t := t) (n := n) (env := env) (e := e) (pp := pp) (vs := vs) (c := c) hy
      rw [an_e] at hv ⊢
      unfold nuR bdR
      dsimp only
      cases hp : pSg t n p with
      | inl q =>
        rw [hp] at e1
        rw [gR_l e1]
        exact rfl
      | inr x =>
        obtain ⟨v', p1⟩ := x
        rw [hp] at e1
        rw [gR_r e1, hv _ _ _ _ _ rfl _ _ hp]
        exact re_app rfl rfl
  exact k τ3 (h3.re re) (re.gl ⟨fun k q => gd_em (gd_nu (gd_an q)), fun j R0 q => lk_em (lk_nu (lk_an q))⟩)
theorem fol_cP (he : ∀ D, D0 ≤ D → FolC t n N B C W w S σ0 e vs (fun σ K => C_X7_readE_0 Z D σ (Int32.ofNat (o + 1)) K)) (hp : ∀ D, D0 ≤ D → FolC t n N B C W w S σ0 pp vs (fun σ K => C_X7_readP_0 Z D σ (Int32.ofNat (o + 1)) K)) (hbe : Bdf e) (ho : o ≤ 12) (hD : D0 + 12 ≤ D) : FolC t n N B C W w S σ0 (pPb t n (enW W.1 W.2.1 W.2.2.1 w) e pp) vs (fun σ K => C_X7_readP_0 Z D σ (Int32.ofNat o) K) := by
  intro R σ K h g k
  obtain ⟨d, rfl⟩ : ∃ d, D = d + 3 := ⟨D - 3, by omega⟩
  have hb : ∀ vs p c p' c' es x, e vs p c = .inr (p', c', es, x) → p ≤ p' := fun vs p c p' c' es x q => by
    have := hbe vs p c p' c' es x q
    omega
  have tb := sgT_b (t := t) (n := n) R
  have eqn : ∀ z : Nat, z ≤ 52 → (Int32.ofNat (sgT t n R) = Int32.ofNat z ↔ sgT t n R = z) := fun z hz => oN_eq (by omega) (by omega)
  refine T_X7_readP_0 h.fx ⟨fun _ => cl_sign h ⟨fun z => ?_, fun z => ?_, fun z => ?_, fun z => ?_, fun z => ?_, fun z => ?_, fun z1 z2 z3 z4 z5 z6 => ?_⟩, fun y => absurd ?_ y⟩
  · have z := (eqn 2 (by decide)).mp z
    rcases R with q | ⟨p, c, es, L, b⟩
    · have z : 0 = 2 := z
      omega
    · exact cl_named he (by omega) hb h g z k
  · exact cl_pnum h g (Or.inl ((eqn 3 (by decide)).mp z)) k
  · have z := (eqn 4 (by decide)).mp z
    refine cl_take (y := 4) (by decide) h (fun τ1 h1 => ?_)
    have g1 := gd_tk (t := t) (n := n) (y := 4) (by decide) (g.w (Nat.zero_le _) (Nat.le_refl _))
    show C_X7_readE_0 Z (d + 2) τ1 (Int32.ofNat o + 1) _
    rw [oN_1]
    refine he (d + 2) (by omega) _ τ1 _ h1 g1 (fun τ2 h2 l2 => cl_take (y := 5) (by decide) h2 (fun τ3 h3 => ?_))
    have re : RE (tkR t n 5 (gR e S vs (tkR t n 4 R))) (gR (pPb t n (enW W.1 W.2.1 W.2.2.1 w) e pp) S vs R) := by
      rcases R with q | ⟨p, c, es, L, b⟩
      · exact rfl
      · have z : tyS t n p = 4 := z
        have e1 := pP_4 (t := t) (n := n) (env := enW W.1 W.2.1 W.2.2.1 w) (e := e) (pp := pp) (vs := vs) (c := c) z
        rw [tk_y z]
        cases hh : e vs (nxS t n p) c with
        | inl q =>
          rw [bnd_l hh] at e1
          rw [gR_l hh, gR_l e1]
          exact rfl
        | inr x =>
          obtain ⟨p1, c1, es1, a⟩ := x
          rw [bnd_r hh] at e1
          rw [gR_r hh]
          by_cases z5 : tyS t n p1 = 5
          · rw [if_pos z5] at e1
            rw [tk_y z5, gR_r e1]
            exact RE.refl _
          · rw [if_neg z5] at e1
            rw [tk_n z5, gR_l e1]
            exact rfl
    exact k τ3 (h3.re re) (re.gl ⟨fun k q => gd_tk (by decide) ((l2.1 _ (gd_tk (by decide) (q.w (Nat.zero_le _) (Nat.le_refl _)))).w (Nat.zero_le _) (Nat.le_refl _)), fun j R0 q => lk_tk (l2.2 _ R0 (lk_tk q))⟩)
  · exact cl_pnum h g (Or.inr ((eqn 10 (by decide)).mp z)) k
  · have z := (eqn 13 (by decide)).mp z
    refine cl_node h g.cp (fun τ1 h1 => cl_take (y := 13) (by decide) h1 (fun τ2 h2 => ?_))
    have g2 := gd_tk (t := t) (n := n) (y := 13) (by decide) (gd_an g)
    show C_X7_readP_0 Z (d + 2) τ2 (Int32.ofNat o + 1) _
    rw [oN_1]
    refine hp (d + 2) (by omega) _ τ2 _ h2 (g2.w (Nat.le_refl _) (by omega)) (fun τ3 h3 l3 => ?_)
    have g3 := l3.1 _ g2
    refine cl_emit h3 (fun p c L b e => by have := g3.pl p c L b e; omega) (fun τ4 h4 => ?_)
    have re : RE (emR 3 0 (gR pp S vs (tkR t n 13 (anR R)))) (gR (pPb t n (enW W.1 W.2.1 W.2.2.1 w) e pp) S vs R) := by
      rcases R with q | ⟨p, c, es, L, b⟩
      · exact rfl
      · have z : tyS t n p = 13 := z
        have e1 := pP_13 (t := t) (n := n) (env := enW W.1 W.2.1 W.2.2.1 w) (e := e) (pp := pp) (vs := vs) (c := c) z
        rw [an_e, tk_y z]
        cases hh : pp vs (nxS t n p) (c + 1) with
        | inl q =>
          rw [bnd_l hh] at e1
          rw [gR_l hh, gR_l e1]
          exact rfl
        | inr x =>
          obtain ⟨p1, c1, es1, a⟩ := x
          rw [bnd_r hh] at e1
          rw [gR_r hh, gR_r e1, em_e]
          refine re_app (List.append_assoc ..) ?_
          rw [List.append_assoc]
          rfl
    exact k τ4 (h4.re re) (re.gl ⟨fun k q => (gd_em (l3.1 _ (gd_tk (by decide) (gd_an q)))).w (Nat.le_refl _) (by omega), fun j R0 q => (lk_em (l3.2 j R0 (lk_tk (lk_an q)))).w (by omega)⟩)
  · have z := (eqn 52 (by decide)).mp z
    rcases R with q | ⟨p, c, es, L, b⟩
    · have z : 0 = 52 := z
      omega
    · exact cl_next he (by omega) hb h g z k
  · refine cl_never h (fun τ1 h1 => ?_)
    have e1 : gR (pPb t n (enW W.1 W.2.1 W.2.2.1 w) e pp) S vs R = nvR R := by
      rcases R with q | ⟨p, c, es, L, b⟩
      · rfl
      · exact gR_l (pP_no ⟨fun y => z1 ((eqn 2 (by decide)).mpr y), fun y => z2 ((eqn 3 (by decide)).mpr y), fun y => z3 ((eqn 4 (by decide)).mpr y), fun y => z4 ((eqn 10 (by decide)).mpr y), fun y => z5 ((eqn 13 (by decide)).mpr y), fun y => z6 ((eqn 52 (by decide)).mpr y)⟩)
    rw [e1] at k
    refine k τ1 h1 ⟨fun k _ p c es L b q => ?_, fun j R0 _ p c L b q => ?_⟩
    · obtain ⟨_, _, _, _, _, _, q2⟩ := bd_live q
      cases q2
    · obtain ⟨_, _, _, _, _, _, q2⟩ := bd_live q
      cases q2
  · rw [show (12 : Int32) = Int32.ofNat 12 from rfl, oN_le (by omega) (by decide)]
    exact ho
/-- E and P, whole -/
theorem fol_cX : ∀ r, r ≤ 12 → ∀ vs : List (List Int32), vs.length + r ≤ 15 → (∀ D, 15 * r + 10 ≤ D → FolC t n N B C W w S σ0 (pX t n (enW W.1 W.2.1 W.2.2.1 w) r false) vs (fun σ K => C_X7_readE_0 Z D σ (Int32.ofNat (13 - r)) K)) ∧ ∀ D, 15 * r + 10 ≤ D → FolC t n N B C W w S σ0 (pX t n (enW W.1 W.2.1 W.2.2.1 w) r true) vs (fun σ K => C_X7_readP_0 Z D σ (Int32.ofNat (13 - r)) K)
  | 0, _, vs, hv => by
    have nv : ∀ (b : Bool) R, gR (pX t n (enW W.1 W.2.1 W.2.2.1 w) 0 b) S vs R = nvR R := fun b R => by
      rcases R with q | ⟨p, c, es, L, b'⟩
      · rfl
      · exact gR_l rfl
    have gl : ∀ R, GL R (nvR R) := fun R => by
      refine ⟨fun k _ p c es L b q => ?_, fun j R0 _ p c L b q => ?_⟩
      · obtain ⟨_, _, _, _, _, _, q2⟩ := bd_live q
        cases q2
      · obtain ⟨_, _, _, _, _, _, q2⟩ := bd_live q
        cases q2
    refine ⟨fun D hD R σ K h g k => ?_, fun D hD R σ K h g k => ?_⟩
    · obtain ⟨d, rfl⟩ : ∃ d, D = d + 2 := ⟨D - 2, by omega⟩
      rw [nv] at k
      exact T_X7_readE_0 h.fx ⟨fun y => absurd y (by decide), fun _ => cl_never h (fun τ1 h1 => k τ1 h1 (gl R))⟩
    · obtain ⟨d, rfl⟩ : ∃ d, D = d + 2 := ⟨D - 2, by omega⟩
      rw [nv] at k
      exact T_X7_readP_0 h.fx ⟨fun y => absurd y (by decide), fun _ => cl_never h (fun τ1 h1 => k τ1 h1 (gl R))⟩
  | r + 1, hr, vs, hv => by
    have ih := fol_cX r (by omega)
    have eo : 13 - r = 13 - (r + 1) + 1 := by omega
    have hw : ∀ (vs' : List (List Int32)) D, vs'.length ≤ vs.length + 1 → 15 * r + 10 ≤ D → FolC t n N B C W w S σ0 (pX t n (enW W.1 W.2.1 W.2.2.1 w) r false) vs' (fun σ K => C_X7_readE_0 Z D σ (Int32.ofNat (13 - (r + 1) + 1)) K) := fun vs' D h1 h2 => by
      rw [← eo]
      exact (ih vs' (by omega)).1 D h2
    have hp : ∀ D, 15 * r + 10 ≤ D → FolC t n N B C W w S σ0 (pX t n (enW W.1 W.2.1 W.2.2.1 w) r true) vs (fun σ K => C_X7_readP_0 Z D σ (Int32.ofNat (13 - (r + 1) + 1)) K) := fun D h2 => by
      rw [← eo]
      exact (ih vs (by omega)).2 D h2
    exact ⟨fun D hD => fol_cE (D0 := 15 * r + 10) hw hp (bd_x r true) (by omega) (by omega) (by omega), fun D hD => fol_cP (D0 := 15 * r + 10) (fun D h => hw vs D (by omega) h) hp (bd_x r false) (by omega) (by omega)⟩
end PW

/-! THE CLASS: reading comparisons; E -/
section CO
variable {Z : zT} {d : Nat} {t : Nat → Int32} {n N : Nat} {B : Nat × Nat × Nat × Nat × Nat} {C : Nat × Nat × Nat × Nat} {W : Wld} {w : Int} {S : Nat} {σ0 : Sg} {vs : List (List Int32)} {R : RR} {σ τ : Sg} {K : kS} {sm e pp : Pf} {D D0 o : Nat}
theorem bm_cd (L : Cd) (x : Ast) (S b : Nat) : bmA L.length (L ++ cdB x false S b) = L ++ cdB x false S (b + 1) := by
  rw [bmA_app, (cd_bm x S b).2]
/-- where nothing follows -/
theorem re_co {env : Env} (h : ¬ (sgT t n (gR sm S vs R) = 15 ∨ sgT t n (gR sm S vs R) = 17 ∨ sgT t n (gR sm S vs R) = 16)) (h3 : ¬ sgT t n (gR sm S vs R) = 33) : gR (pCo t n env sm) S vs R = gR sm S vs R := by
  rcases R with q | ⟨p, c, es, L, b⟩
  · rfl
  · cases hh : sm vs p c with
    | inl q =>
      have e1 : pCo t n env sm vs p c = .inl q := bnd_l hh
      rw [gR_l hh, gR_l e1]
    | inr y =>
      obtain ⟨p1, c1, es1, x⟩ := y
      rw [gR_r hh] at h h3
      have h : ¬ (tyS t n p1 = 15 ∨ tyS t n p1 = 17 ∨ tyS t n p1 = 16) := h
      have h3 : ¬ tyS t n p1 = 33 := h3
      have e1 : pCo t n env sm vs p c = .inr (p1, c1, es1, x) := by
        refine Eq.trans (bnd_r hh) ?_
        rw [if_neg h, if_neg h3]
      rw [gR_r hh, gR_r e1]
theorem cl_cmp79 {y : Nat} {env : Env} {τ0 : Sg} (hs : ∀ D, D0 ≤ D → FolC t n N B C W w S σ0 sm vs (fun σ K => C_X7_readSum_0 Z D σ (Int32.ofNat o) K)) (hD : D0 + 3 ≤ D) (h0 : CSt t n N B C W w S σ0 vs R τ0) (h : CSt t n N B C W w S σ0 vs (gR sm S vs R) σ) (l : GL R (gR sm S vs R)) (g : GD 0 (wK w) R) (hy : sgT t n (gR sm S vs R) = y) (hy2 : y = 15 ∨ y = 17 ∨ y = 16) (k : ∀ τ, CSt t n N B C W w S σ0 vs (gR (pCo t n env sm) S vs R) τ → GL R (gR (pCo t n env sm) S vs R) → K (.inl none) τ) : C_X7_readCompared_79 Z D σ (Int32.ofNat o) (τ0.i 24 3) (Int32.ofNat y) K := by
  obtain ⟨d, rfl⟩ : ∃ d, D = d + 3 := ⟨D - 3, by omega⟩
  have g1 := l.1 _ g
  refine T_X7_readCompared_79 h.fx (cl_nodeR h h0 (l.2 _ _ (LeK.refl R)) (g1.w (Nat.le_refl _) (by omega)) (fun τ1 h1 => cl_take (by omega) h1 (fun τ2 h2 => ?_)))
  have g2 := gd_tk (t := t) (n := n) (y := y) (by omega) (gd_an2 (f := lnR R) g1)
  refine hs (d + 2) (by omega) _ τ2 _ h2 (g2.w (Nat.le_refl _) (by omega)) (fun τ3 h3 l3 => ?_)
  have g3 := l3.1 _ g2
  have re : RE (emR (cmO y) 0 (gR sm S vs (tkR t n y (an2 (lnR R) (gR sm S vs R))))) (gR (pCo t n env sm) S vs R) := by
    rcases R with q | ⟨p, c, es, L, b⟩
    · have hy : 0 = y := hy
      omega
    · cases hh : sm vs p c with
      | inl q =>
        rw [gR_l hh] at hy
        have hy : 0 = y := hy
        omega
      | inr x =>
        obtain ⟨p1, c1, es1, a⟩ := x
        rw [gR_r hh] at hy ⊢
        have hy : tyS t n p1 = y := hy
        have e1 : pCo t n env sm vs p c = bnd (sm vs (nxS t n p1) (c1 + 1)) fun p2 c2 es2 z => .inr (p2, c2, es1 ++ cnE c1 p1 ++ es2, aN 8 (tyS t n p1) 0 a z .nil) := by
          refine Eq.trans (bnd_r hh) ?_
          rw [if_pos (by omega)]
        rw [ln_e, an2_e, tk_y hy, bm_cd]
        cases hk : sm vs (nxS t n p1) (c1 + 1) with
        | inl q =>
          rw [bnd_l hk] at e1
          rw [gR_l hk, gR_l e1]
          exact rfl
        | inr x =>
          obtain ⟨p2, c2, es2, a2⟩ := x
          rw [bnd_r hk] at e1
          rw [gR_r hk, gR_r e1, em_e]
          refine re_app (by simp only [List.append_assoc]) ?_
          show _ = L ++ (cdB a false (S + L.length) (b + 1) ++ (cdB a2 false (S + L.length + (cdB a false (S + L.length) (b + 1)).length) 0 ++ [(cmO (tyS t n p1), 0, 0)]))
          rw [hy, List.length_append, ← Nat.add_assoc]
          simp only [List.append_assoc]
  have fin : C_X1_emit_0 Z (d + 2) τ3 (cmO y) 0 (yN K fun τ7 => K (.inl none) τ7) := by
    refine cl_emit h3 (fun p c L b e => by have := g3.pl p c L b e; omega) (fun τ4 h4 => ?_)
    exact k τ4 (h4.re re) (re.gl ⟨fun k q => (gd_em (l3.1 _ (gd_tk (by omega) (gd_an2 (l.1 _ q))))).w (Nat.le_refl _) (by omega), fun j R0 q => (lk_em (l3.2 _ R0 (lk_tk (lk_an2 (l.2 _ R0 q))))).w (by omega)⟩)
  rcases hy2 with z | z | z
  · subst z
    exact ⟨fun q => absurd rfl q, fun _ => fin⟩
  · rw [z] at fin ⊢
    exact ⟨fun _ => ⟨fun q => absurd rfl q, fun _ => fin⟩, fun q => absurd q (by decide)⟩
  · rw [z] at fin ⊢
    exact ⟨fun _ => ⟨fun _ => fin, fun q => absurd q (by decide)⟩, fun q => absurd q (by decide)⟩
theorem cl_comp (hs : ∀ D, D0 ≤ D → FolC t n N B C W w S σ0 sm vs (fun σ K => C_X7_readSum_0 Z D σ (Int32.ofNat o) K)) (hD : D0 + 3 ≤ D) : FolC t n N B C W w S σ0 (pCo t n (enW W.1 W.2.1 W.2.2.1 w) sm) vs (fun σ K => C_X7_readCompared_0 Z D σ (Int32.ofNat o) K) := by
  intro R σ K h g k
  have hD' := hD
  obtain ⟨d, rfl⟩ : ∃ d, D = d + 3 := ⟨D - 3, by omega⟩
  refine T_X7_readCompared_0 h.fx (hs (d + 2) (by omega) R σ _ h g (fun τ1 h1 l1 => cl_sign h1 ?_))
  have tb := sgT_b (t := t) (n := n) (gR sm S vs R)
  have eqn : ∀ z : Nat, z ≤ 52 → (Int32.ofNat (sgT t n (gR sm S vs R)) = Int32.ofNat z ↔ sgT t n (gR sm S vs R) = z) := fun z hz => oN_eq (by omega) (by omega)
  have g1 := l1.1 _ g
  have k1 := l1.2 _ _ (LeK.refl R)
  refine ⟨fun z33 => ⟨fun z => ?_, fun z15 => ⟨fun z => ?_, fun z17 => ⟨fun z16 => ?_, fun z => ?_⟩⟩⟩, fun z => ?_⟩
  · have z := (eqn 15 (by decide)).mp z
    exact cl_cmp79 hs hD' h h1 l1 g rfl (Or.inl z) k
  · have z := (eqn 17 (by decide)).mp z
    exact cl_cmp79 hs hD' h h1 l1 g rfl (Or.inr (Or.inl z)) k
  · have e := re_co (t := t) (n := n) (sm := sm) (S := S) (vs := vs) (R := R) (env := enW W.1 W.2.1 W.2.2.1 w) (fun y => by
      rcases y with y | y | y
      · exact z15 ((eqn 15 (by decide)).mpr y)
      · exact z17 ((eqn 17 (by decide)).mpr y)
      · exact z16 ((eqn 16 (by decide)).mpr y)) (fun y => z33 ((eqn 33 (by decide)).mpr y))
    rw [e] at k
    exact k τ1 h1 l1
  · have z := (eqn 16 (by decide)).mp z
    exact cl_cmp79 hs hD' h h1 l1 g rfl (Or.inr (Or.inr z)) k
  · have z := (eqn 33 (by decide)).mp z
    refine cl_nodeR h1 h k1 (g1.w (Nat.le_refl _) (by omega)) (fun τ2 h2 => cl_take (y := 33) (by decide) h2 (fun τ3 h3 => cl_kindN h3 (fun τ4 v v1 v2 v3 h4 => ?_)))
    have g4 := gd_kn (t := t) (n := n) (f := (enW W.1 W.2.1 W.2.2.1 w).1) ((gd_tk (t := t) (n := n) (y := 33) (by decide) (gd_an2 (f := lnR R) g1)).w (Nat.zero_le _) (Nat.le_refl _))
    refine cl_emit h4 (fun p c L b e => by have := g4.pl p c L b e; omega) (fun τ5 h5 => ?_)
    have re : RE (emR 4 (Int32.ofInt v) (knR t n (enW W.1 W.2.1 W.2.2.1 w).1 (tkR t n 33 (an2 (lnR R) (gR sm S vs R))))) (gR (pCo t n (enW W.1 W.2.1 W.2.2.1 w) sm) S vs R) := by
      rcases R with q | ⟨p, c, es, L, b⟩
      · have z : 0 = 33 := z
        omega
      · cases hh : sm vs p c with
        | inl q =>
          rw [gR_l hh] at z
          have z : 0 = 33 := z
          omega
        | inr x =>
          obtain ⟨p1, c1, es1, a⟩ := x
          rw [gR_r hh] at z v3 ⊢
          have z : tyS t n p1 = 33 := z
          rw [ln_e, an2_e, tk_y z, bm_cd] at v3 ⊢
          by_cases z2 : tyS t n (nxS t n p1) = 2
          · have ev := v3 _ _ _ _ _ rfl z2
            have e1 : pCo t n (enW W.1 W.2.1 W.2.2.1 w) sm vs p c = .inr (nxS t n (nxS t n p1), c1 + 1, es1 ++ cnE c1 p1 ++ (if (enW W.1 W.2.1 W.2.2.1 w).1 (nmS t n (nxS t n p1)) = none then [(nxS t n p1, 3)] else []), aN 9 (idx ((enW W.1 W.2.1 W.2.2.1 w).1 (nmS t n (nxS t n p1)))) 0 a .nil .nil) := by
              refine Eq.trans (bnd_r hh) ?_
              rw [if_neg (by omega), if_pos z, if_pos z2]
            rw [← ev] at e1
            rw [kn_y z2, em_e, gR_r e1]
            refine re_app (by simp only [List.append_assoc]) ?_
            show _ = L ++ (cdB a false (S + L.length) (b + 1) ++ [(4, Int32.ofInt v, 0)])
            rw [List.append_assoc]
          · have e1 : pCo t n (enW W.1 W.2.1 W.2.2.1 w) sm vs p c = .inl (nxS t n p1) := by
              refine Eq.trans (bnd_r hh) ?_
              rw [if_neg (by omega), if_pos z, if_neg z2]
            rw [kn_n z2, gR_l e1]
            exact rfl
    refine k τ5 (h5.re re) (re.gl ⟨fun k q => ?_, fun j R0 q => ?_⟩)
    · have q4 := gd_kn (t := t) (n := n) (f := (enW W.1 W.2.1 W.2.2.1 w).1) ((gd_tk (t := t) (n := n) (y := 33) (by decide) (gd_an2 (f := lnR R) (l1.1 _ q))).w (Nat.zero_le _) (Nat.le_refl _))
      exact (gd_em q4).w (Nat.le_refl _) (by omega)
    · exact (lk_em (lk_kn (lk_tk (lk_an2 (l1.2 _ R0 q))))).w (by omega)
theorem pE_co {env : Env} {p c : Nat} (h : ¬ tyS t n p = 42 ∧ ¬ tyS t n p = 29 ∧ ¬ tyS t n p = 45 ∧ ¬ tyS t n p = 46 ∧ ¬ tyS t n p = 48 ∧ ¬ tyS t n p = 50 ∧ ¬ tyS t n p = 51) : pEb t n env e pp vs p c = pCo t n env (pCh t n (pCh t n pp 11 12) 9 10) vs p c := by
  unfold pEb
  rw [if_neg (by omega), if_neg (by omega), if_neg (by omega), if_neg (by omega), if_neg (by omega)]
/-- E, not too deep -/
theorem fol_cE (hw : ∀ vs' D, vs'.length ≤ vs.length + 1 → D0 ≤ D → FolC t n N B C W w S σ0 e vs' (fun σ K => C_X7_readE_0 Z D σ (Int32.ofNat (o + 1)) K)) (hp : ∀ D, D0 ≤ D → FolC t n N B C W w S σ0 pp vs (fun σ K => C_X7_readP_0 Z D σ (Int32.ofNat (o + 1)) K)) (hbp : Bdf pp) (ho : o ≤ 12) (hv : vs.length < 16) (hD : D0 + 12 ≤ D) : FolC t n N B C W w S σ0 (pEb t n (enW W.1 W.2.1 W.2.2.1 w) e pp) vs (fun σ K => C_X7_readE_0 Z D σ (Int32.ofNat o) K) := by
  intro R σ K h g k
  obtain ⟨d, rfl⟩ : ∃ d, D = d + 2 := ⟨D - 2, by omega⟩
  have he : ∀ D, D0 ≤ D → FolC t n N B C W w S σ0 e vs (fun σ K => C_X7_readE_0 Z D σ (Int32.ofNat (o + 1)) K) := fun D hD => hw vs D (by omega) hD
  have tb := sgT_b (t := t) (n := n) R
  have eqn : ∀ z : Nat, z ≤ 52 → (Int32.ofNat (sgT t n R) = Int32.ofNat z ↔ sgT t n R = z) := fun z hz => oN_eq (by omega) (by omega)
  refine T_X7_readE_0 h.fx ⟨fun _ => cl_sign h ⟨fun z => ?_, fun z => ?_, fun z => ?_, fun z => ?_, fun z => ?_, fun z => ?_, fun z => ?_, fun z1 z2 z3 z4 z5 z6 z7 => ?_⟩, fun y => absurd ?_ y⟩
  · exact cl_if he (by omega) h g ((eqn 29 (by decide)).mp z) k
  · exact cl_let hw (by omega) hv h g ((eqn 42 (by decide)).mp z) k
  · exact cl_with he (by omega) h g rfl (Or.inl ((eqn 45 (by decide)).mp z)) k
  · exact cl_with he (by omega) h g rfl (Or.inr ((eqn 46 (by decide)).mp z)) k
  · exact cl_try hw (by omega) hv h g ((eqn 48 (by decide)).mp z) k
  · have z' := (eqn 50 (by decide)).mp z
    have := cl_e172 (D := d + 2) (K := K) he (by omega) h g z' (Or.inl rfl) k
    exact cl_sign h ⟨fun y => absurd z y, fun _ => this⟩
  · have z' := (eqn 51 (by decide)).mp z
    have := cl_e172 (D := d + 2) (K := K) he (by omega) h g z' (Or.inr rfl) k
    exact cl_sign h ⟨fun _ => this, fun y => absurd (z.symm.trans y) (by decide)⟩
  · have hb1 : ∀ vs p c p' c' es x, pp vs p c = .inr (p', c', es, x) → p ≤ p' := fun vs p c p' c' es x q => by
      have := hbp vs p c p' c' es x q
      omega
    have hb2 : ∀ vs p c p' c' es x, pCh t n pp 11 12 vs p c = .inr (p', c', es, x) → p ≤ p' := fun vs p c p' c' es x q => by
      have := bd_ch (t := t) (n := n) hbp (s1 := 11) (s2 := 12) (by decide) (by decide) vs p c p' c' es x q
      omega
    have f1 : ∀ D, D0 + 3 ≤ D → FolC t n N B C W w S σ0 (pCh t n pp 11 12) vs (fun σ K => C_X7_readProduct_0 Z D σ (Int32.ofNat o) K) := fun D hD => cl_prod hp hD hb1
    have f2 : ∀ D, D0 + 6 ≤ D → FolC t n N B C W w S σ0 (pCh t n (pCh t n pp 11 12) 9 10) vs (fun σ K => C_X7_readSum_0 Z D σ (Int32.ofNat o) K) := fun D hD => cl_sum (D0 := D0 + 3) f1 (by omega) hb2
    have f3 := cl_comp (D := d + 1) f2 (by omega)
    have e : gR (pEb t n (enW W.1 W.2.1 W.2.2.1 w) e pp) S vs R = gR (pCo t n (enW W.1 W.2.1 W.2.2.1 w) (pCh t n (pCh t n pp 11 12) 9 10)) S vs R := by
      rcases R with q | ⟨p, c, es, L, b⟩
      · rfl
      · have ec := pE_co (t := t) (n := n) (e := e) (pp := pp) (vs := vs) (env := enW W.1 W.2.1 W.2.2.1 w) (p := p) (c := c) ⟨fun y => z2 ((eqn 42 (by decide)).mpr y), fun y => z1 ((eqn 29 (by decide)).mpr y), fun y => z3 ((eqn 45 (by decide)).mpr y), fun y => z4 ((eqn 46 (by decide)).mpr y), fun y => z5 ((eqn 48 (by decide)).mpr y), fun y => z6 ((eqn 50 (by decide)).mpr y), fun y => z7 ((eqn 51 (by decide)).mpr y)⟩
        unfold gR bdR
        dsimp only
        rw [ec]
    rw [e] at k
    exact f3 R σ _ h g k
  · rw [show (12 : Int32) = Int32.ofNat 12 from rfl, oN_le (by omega) (by decide)]
    exact ho
end CO

/-! THE CLASS: a comparison read, whole -/
section CM3
variable {Z : zT} {d : Nat} {t : Nat → Int32} {n N m : Nat} {B : Nat × Nat × Nat × Nat × Nat} {C : Nat × Nat × Nat × Nat} {W : Wld} {σ τ υ : Sg} {K : kS} {vs : List (List Int32)} {R : HR}
theorem lv_8 (v w : Int) (a b : Ast) : lvT (aN 8 v w a b .nil) = [aN 8 v w a b .nil] := rfl
theorem lv_9 (v w : Int) (a b : Ast) : lvT (aN 9 v w a b .nil) = [aN 9 v w a b .nil] := rfl
theorem mem_sw {a b c d : Evs} (e : Nat × Nat) : e ∈ a ++ b ++ c ++ d ↔ e ∈ a ++ (c ++ b ++ d) := by
  simp only [List.mem_append]
  constructor
  · intro h
    rcases h with ((h | h) | h) | h
    · exact Or.inl h
    · exact Or.inr (Or.inl (Or.inr h))
    · exact Or.inr (Or.inl (Or.inl h))
    · exact Or.inr (Or.inr h)
  · intro h
    rcases h with h | (h | h) | h
    · exact Or.inl (Or.inl (Or.inl h))
    · exact Or.inl (Or.inr h)
    · exact Or.inl (Or.inl (Or.inr h))
    · exact Or.inr h
/-- from the first sign on: one comparison is counted already -/
theorem cm_29 {p c : Nat} {es : Evs} {lv : List Ast} {w : Int} (hm : m < 122) (hv : vs.length ≤ 16) (hj : ∀ nm ∈ vs, nm ≠ []) (hB : HB t n N B C W σ) (h : BdS t n N vs (.inr (p, es ++ ctE c p)) σ) (T : TqS m es lv σ) (hc : es ++ ctE c p = [] → lv.length < 6) (kd : ∀ τ (v : Nat) q, pCm t n (enW W.1 W.2.1 W.2.2.1 w) vs p c = .inl q → v ≤ 5 → TtF m σ τ → BdS t n N vs (.inl q) τ → (∃ es' lv', TqS m es' lv' τ) → K (.inl (some (.int (Int32.ofNat v)))) τ) (kl : ∀ τ (v : Nat) p' c' es' x, pCm t n (enW W.1 W.2.1 W.2.2.1 w) vs p c = .inr (p', c', es', x) → v ≤ 5 → (es ++ es' = [] → v = lv.length) → TtF m σ τ → BdS t n N vs (.inr (p', es ++ es')) τ → TqS m (es ++ es') (lv ++ lvT x) τ → τ.i 40 10 = σ.i 40 10 → K (.inl (some (.int (Int32.ofNat v)))) τ) : C_X7_readComparison_29 Z (d + 4) σ (Int32.ofNat m) K := by
  have tb : tyS t n p ≤ 52 := ty_b
  obtain ⟨i, i1, i2, -, i4⟩ := h.pos hB
  have i4 := i4 _ _ rfl
  have hB' := hB
  obtain ⟨fx, sa, ss, ⟨nn, hN1⟩, -⟩ := hB'
  have hcc := sa.2.2.2.2.2.2.2.2.2
  -- two terms
  have terms : ¬ (tyS t n p = 2 ∧ tyS t n (nxS t n p) = 33) → C_X7_readComparison_94 Z (d + 4) σ (Int32.ofNat m) K := fun nz => by
    have ec := cm_tm (t := t) (n := n) (env := enW W.1 W.2.1 W.2.2.1 w) (vs := vs) (k := c) nz
    refine T_X7_readComparison_94 fx (cl_term hB h hv hj (fun τ1 f1 b1 w1 => ?_))
    have hB1 := hB.td f1
    have tb1 := hsg_b (t := t) (n := n) (htm t n vs (.inr (p, es ++ ctE c p)))
    generalize hl2 : τ1.i 40 11 = l2 at w1
    generalize hl3 : τ1.l 40 12 = l3 at w1
    -- from the sign between on
    have rest : ∀ (s1 : Int32) (R2 : HR), (∀ (K : kS), (∀ τ, HdF τ1 τ → BdS t n N vs R2 τ → K (.inl none) τ) → C_X7_take_0 Z (d + 3) τ1 s1 K) → (R2 = hbd (htm t n vs (.inr (p, es ++ ctE c p))) fun p1 e => if tyS t n p1 = 15 ∨ tyS t n p1 = 17 ∨ tyS t n p1 = 16 then .inr (nxS t n p1, e) else .inl p1) → C_X7_readComparison_142 Z (d + 4) τ1 (Int32.ofNat m) l2 l3 (Int32.ofNat (hsg t n (htm t n vs (.inr (p, es ++ ctE c p))))) s1 K := fun s1 R2 hs1 eR2 => by
      refine T_X7_readComparison_142 hB1.1 (hs1 _ (fun τ2 f2 b2 => ?_))
      have hB2 := hB1.hd f2
      refine cl_term hB2 b2 hv hj (fun τ3 f3 b3 w3 => ?_)
      have hB3 := hB2.td f3
      have fr : TdF σ τ3 := (f1.tr f2.td).tr f3
      have T3 := T.td fr
      have e10 : τ3.i 40 10 = σ.i 40 10 := fr.2.2.1 40 10 (by omega) (by omega)
      -- the test is put down
      have fin : ∀ (s0 : Int64) (si : Int32), si = (if hsg t n (htm t n vs (.inr (p, es ++ ctE c p))) = 15 then 1 else 0) → s0 = τ3.l 40 12 - l3 → C_X7_readComparison_167 Z (d + 4) τ3 (Int32.ofNat m) l2 (Int32.ofNat (hsg t n (htm t n vs (.inr (p, es ++ ctE c p))))) s0 si K := fun s0 si esi es0 => by
        -- the comparison's sort
        have addt : ∀ so : Int32, so = (if hsg t n (htm t n vs (.inr (p, es ++ ctE c p))) = 16 then 1 else 0) → C_X5_addTest_0 Z (d + 3) τ3 (Int32.ofNat m) so l2 (τ3.i 40 11) (s0 - Int32.toInt64 si) (yI K fun v6 τ4 => K (.inl (some (.int v6))) τ4) := fun so eso => by
          cases h1 : pTm t n vs p with
          | inl q =>
            have e1 : htm t n vs (.inr (p, es ++ ctE c p)) = .inl q := by
              unfold htm hbd
              dsimp only
              rw [h1]
            rw [e1] at eR2
            have eR2 : R2 = .inl q := eR2
            rw [eR2] at b3
            rw [h1] at ec
            refine cm_end (es2 := [(0, 1)]) (x := .nil) hB3 hm b3 T3 (fun z => by cases z) (fun z => by cases z) (fun τ v v1 v2 f b Tq _ => kd τ v q ec v1 ((fr.tt m).tr f) b ⟨_, _, Tq⟩)
          | inr y1 =>
            obtain ⟨p1, e1, pa, mo⟩ := y1
            have eh : htm t n vs (.inr (p, es ++ ctE c p)) = .inr (p1, es ++ ctE c p ++ e1) := by
              unfold htm hbd
              dsimp only
              rw [h1]
            rw [h1] at ec
            dsimp only at ec
            rw [eh] at eR2 eso esi
            have eR2 : R2 = if tyS t n p1 = 15 ∨ tyS t n p1 = 17 ∨ tyS t n p1 = 16 then .inr (nxS t n p1, es ++ ctE c p ++ e1) else .inl p1 := eR2
            have eso : so = if tyS t n p1 = 16 then 1 else 0 := eso
            have esi : si = if tyS t n p1 = 15 then 1 else 0 := esi
            have e5 : Int32.toInt64 si = Int64.ofInt (if tyS t n p1 = 15 then 1 else 0) := by
              rw [esi]
              by_cases y : tyS t n p1 = 15
              · rw [if_pos y, if_pos y]
                rfl
              · rw [if_neg y, if_neg y]
                rfl
            by_cases zt : tyS t n p1 = 15 ∨ tyS t n p1 = 17 ∨ tyS t n p1 = 16
            · rw [if_pos zt] at ec eR2
              cases h2 : pTm t n vs (nxS t n p1) with
              | inl q =>
                rw [h2] at ec
                rw [eR2] at b3
                have e3 : htm t n vs (.inr (nxS t n p1, es ++ ctE c p ++ e1)) = .inl q := by
                  unfold htm hbd
                  dsimp only
                  rw [h2]
                rw [e3] at b3
                exact cm_end (es2 := [(0, 1)]) (x := .nil) hB3 hm b3 T3 (fun z => by cases z) (fun z => by cases z) (fun τ v v1 v2 f b Tq _ => kd τ v q ec v1 ((fr.tt m).tr f) b ⟨_, _, Tq⟩)
              | inr y2 =>
                obtain ⟨p2, e2, pb, bb⟩ := y2
                rw [h2] at ec
                dsimp only at ec
                rw [eR2] at b3
                have e3 : htm t n vs (.inr (nxS t n p1, es ++ ctE c p ++ e1)) = .inr (p2, es ++ ctE c p ++ e1 ++ e2) := by
                  unfold htm hbd
                  dsimp only
                  rw [h2]
                rw [e3] at b3
                have b3 := b3.se (es' := es ++ (e1 ++ ctE c p ++ e2)) (fun e => mem_sw e)
                have nil : es ++ (e1 ++ ctE c p ++ e2) = [] → es = [] ∧ ctE c p = [] ∧ e1 = [] ∧ e2 = [] := fun z => by
                  obtain ⟨z1, z2⟩ := List.append_eq_nil_iff.mp z
                  obtain ⟨z3, z4⟩ := List.append_eq_nil_iff.mp z2
                  obtain ⟨z5, z6⟩ := List.append_eq_nil_iff.mp z3
                  exact ⟨z1, z6, z5, z4⟩
                refine cm_end (es2 := es ++ (e1 ++ ctE c p ++ e2)) (x := aN 8 (tyS t n p1) pa (.nest pb (.nest (mo - bb) .nil)) .nil .nil) hB3 hm b3 T3 (fun z => ?_) (fun z => ⟨rfl, fun τ x1 x2 x3 x4 => ?_⟩) (fun τ v v1 v2 f b Tq c10 => kl τ v _ _ _ _ ec v1 v2 ((fr.tt m).tr f) b Tq (c10.trans e10))
                · obtain ⟨z1, z2, -, -⟩ := nil z
                  exact ⟨z1, hc (by rw [z1, z2]; rfl)⟩
                · obtain ⟨z1, z2, z3, z4⟩ := nil z
                  subst z3 z4
                  obtain ⟨g1, g2⟩ := w1 p _ p1 pa mo rfl h1
                  obtain ⟨g3, g4⟩ := w3 (nxS t n p1) _ p2 pb bb eR2 h2
                  refine Or.inl ⟨tyS t n p1, pa, pb, mo - bb, rfl, x1.trans eso, x2.trans g1, x3.trans g3, x4.trans ?_⟩
                  rw [es0, g4, g2, ← Int64.ofInt_sub, e5, ← Int64.ofInt_sub]
                  congr 1
                  omega
            · rw [if_neg zt] at ec eR2
              rw [eR2] at b3
              exact cm_end (es2 := [(0, 1)]) (x := .nil) hB3 hm b3 T3 (fun z => by cases z) (fun z => by cases z) (fun τ v v1 v2 f b Tq _ => kd τ v p1 ec v1 ((fr.tt m).tr f) b ⟨_, _, Tq⟩)
        refine T_X7_readComparison_167 hB3.1 ?_
        show (¬ Int32.ofNat (hsg t n (htm t n vs (.inr (p, es ++ ctE c p)))) = Int32.ofNat 16 → _) ∧ (Int32.ofNat (hsg t n (htm t n vs (.inr (p, es ++ ctE c p)))) = Int32.ofNat 16 → _)
        rw [oN_eq (by omega) (by decide)]
        exact ⟨fun z => addt 0 (if_neg z).symm, fun z => addt 1 (if_pos z).symm⟩
      show (¬ Int32.ofNat (hsg t n (htm t n vs (.inr (p, es ++ ctE c p)))) = Int32.ofNat 15 → _) ∧ (Int32.ofNat (hsg t n (htm t n vs (.inr (p, es ++ ctE c p)))) = Int32.ofNat 15 → _)
      rw [oN_eq (by omega) (by decide)]
      exact ⟨fun z => fin _ 0 (if_neg z).symm rfl, fun z => fin _ 1 (if_pos z).symm rfl⟩
    generalize hR1 : htm t n vs (.inr (p, es ++ ctE c p)) = R1 at b1 tb1 rest
    refine h_sign hB1 b1 ?_
    show (Int32.ofNat (hsg t n R1) = Int32.ofNat 15 → C_X7_readComparison_136 Z (d + 4) τ1 (Int32.ofNat m) (τ1.i 40 11) (τ1.l 40 12) (Int32.ofNat (hsg t n R1)) K) ∧ (¬ Int32.ofNat (hsg t n R1) = Int32.ofNat 15 → (Int32.ofNat (hsg t n R1) = Int32.ofNat 17 → C_X7_readComparison_136 Z (d + 4) τ1 (Int32.ofNat m) (τ1.i 40 11) (τ1.l 40 12) (Int32.ofNat (hsg t n R1)) K) ∧ (¬ Int32.ofNat (hsg t n R1) = Int32.ofNat 17 → (¬ Int32.ofNat (hsg t n R1) = Int32.ofNat 16 → C_X7_readComparison_142 Z (d + 4) τ1 (Int32.ofNat m) (τ1.i 40 11) (τ1.l 40 12) (Int32.ofNat (hsg t n R1)) (-1) K) ∧ (Int32.ofNat (hsg t n R1) = Int32.ofNat 16 → C_X7_readComparison_136 Z (d + 4) τ1 (Int32.ofNat m) (τ1.i 40 11) (τ1.l 40 12) (Int32.ofNat (hsg t n R1)) K)))
    rw [oN_eq (by omega) (by decide), oN_eq (by omega) (by decide), oN_eq (by omega) (by decide), hl2, hl3]
    have yes : (hsg t n R1 = 15 ∨ hsg t n R1 = 17 ∨ hsg t n R1 = 16) → C_X7_readComparison_136 Z (d + 4) τ1 (Int32.ofNat m) l2 l3 (Int32.ofNat (hsg t n R1)) K := fun z => by
      refine T_X7_readComparison_136 hB1.1 (rest _ (htk t n (hsg t n R1) R1) (fun K' kk => h_take (y := hsg t n R1) (by omega) hB1 b1 kk) ?_)
      rcases R1 with q | ⟨p1, e⟩
      · have z : 0 = 15 ∨ 0 = 17 ∨ 0 = 16 := z
        omega
      · have z : tyS t n p1 = 15 ∨ tyS t n p1 = 17 ∨ tyS t n p1 = 16 := z
        show (if tyS t n p1 = tyS t n p1 then _ else _) = (if tyS t n p1 = 15 ∨ tyS t n p1 = 17 ∨ tyS t n p1 = 16 then _ else _)
        rw [if_pos rfl, if_pos z]
    refine ⟨fun z => yes (Or.inl z), fun z1 => ⟨fun z => yes (Or.inr (Or.inl z)), fun z2 => ⟨fun z3 => rest _ (hnv R1) (fun K' kk => h_never hB1 b1 kk) ?_, fun z => yes (Or.inr (Or.inr z))⟩⟩⟩
    rcases R1 with q | ⟨p1, e⟩
    · rfl
    · have z1 : ¬ tyS t n p1 = 15 := z1
      have z2 : ¬ tyS t n p1 = 17 := z2
      have z3 : ¬ tyS t n p1 = 16 := z3
      exact (if_neg (by omega)).symm
  refine T_X7_readComparison_29 fx (h_sign hB h ?_)
  show (¬ Int32.ofNat (tyS t n p) = Int32.ofNat 2 → _) ∧ (Int32.ofNat (tyS t n p) = Int32.ofNat 2 → _)
  rw [oN_eq (by omega) (by decide)]
  refine ⟨fun z => terms (fun y => z y.1), fun z => ?_⟩
  obtain ⟨s1, s2⟩ := sg_ty ss.2.2.1 i1 (by rw [i4]; omega)
  rw [i4] at s2
  have tb1 : tyS t n (nxS t n p) ≤ 52 := ty_b
  refine ⟨_, sa.1.1, _, sa.1.2, by rw [i2, oN_1]; exact ib_oN (by omega) (by omega), ?_⟩
  rw [i2, oN_1, oN_t (by omega), (ss.2.1 (i + 1) (by omega)).1, s2, show (33 : Int32) = Int32.ofNat 33 from rfl, oN_eq (by omega) (by decide)]
  refine ⟨fun y => terms (fun q => y q.2), fun y => h_var hB h hj (fun τ1 v v1 v2 hv' f1 b1 => ?_)⟩
  have hv' := hv' p _ rfl z
  have e1 : hkn t n (lstI vs) (.inr (p, es ++ ctE c p)) = .inr (nxS t n p, es ++ ctE c p ++ spE vs (nmS t n p) p) := if_pos z
  rw [e1] at b1
  have hB1 := hB.hd f1
  refine h_take (y := 33) (by decide) hB1 b1 (fun τ2 f2 b2 => ?_)
  have e2 : ∀ x, htk t n 33 (.inr (nxS t n p, x)) = .inr (nxS t n (nxS t n p), x) := fun x => if_pos y
  rw [e2] at b2
  have hB2 := hB1.hd f2
  refine h_kind (w := w) hB2 b2 (fun τ3 u u1 u2 hu f3 b3 => ?_)
  have hB3 := hB2.hd f3
  have fr : HdF σ τ3 := (f1.tr f2).tr f3
  have T3 := T.td fr.td
  have e10 : τ3.i 40 10 = σ.i 40 10 := fr.2.2.1 40 10 (by omega) (by omega)
  have ec : pCm t n (enW W.1 W.2.1 W.2.2.1 w) vs p c = if tyS t n (nxS t n (nxS t n p)) = 2 then .inr (nxS t n (nxS t n (nxS t n p)), c + 1, spE vs (nmS t n p) p ++ ctE c p ++ (if (enW W.1 W.2.1 W.2.2.1 w).1 (nmS t n (nxS t n (nxS t n p))) = none then [(nxS t n (nxS t n p), 3)] else []), aN 9 (idx ((enW W.1 W.2.1 W.2.2.1 w).1 (nmS t n (nxS t n (nxS t n p))))) (spV vs (nmS t n p)) .nil .nil .nil) else .inl (nxS t n (nxS t n p)) := by
    unfold pCm
    rw [if_pos z, if_pos y]
  by_cases y2 : tyS t n (nxS t n (nxS t n p)) = 2
  · rw [if_pos y2] at ec
    have e3 : ∀ x, hkn t n (enW W.1 W.2.1 W.2.2.1 w).1 (.inr (nxS t n (nxS t n p), x)) = .inr (nxS t n (nxS t n (nxS t n p)), x ++ (if (enW W.1 W.2.1 W.2.2.1 w).1 (nmS t n (nxS t n (nxS t n p))) = none then [(nxS t n (nxS t n p), 3)] else [])) := fun x => if_pos y2
    rw [e3] at b3
    have hu := hu _ _ rfl y2
    have b3 := b3.se (es' := es ++ (spE vs (nmS t n p) p ++ ctE c p ++ (if (enW W.1 W.2.1 W.2.2.1 w).1 (nmS t n (nxS t n (nxS t n p))) = none then [(nxS t n (nxS t n p), 3)] else []))) (fun e => mem_sw e)
    refine cm_end (es2 := es ++ (spE vs (nmS t n p) p ++ ctE c p ++ (if (enW W.1 W.2.1 W.2.2.1 w).1 (nmS t n (nxS t n (nxS t n p))) = none then [(nxS t n (nxS t n p), 3)] else []))) (x := aN 9 (idx ((enW W.1 W.2.1 W.2.2.1 w).1 (nmS t n (nxS t n (nxS t n p))))) (spV vs (nmS t n p)) .nil .nil .nil) hB3 hm b3 T3 (fun zz => ?_) (fun zz => ⟨rfl, fun τ x1 x2 x3 x4 => ?_⟩) (fun τ v v1 v2 f b Tq c10 => kl τ v _ _ _ _ ec v1 v2 ((fr.tt m).tr f) b Tq (c10.trans e10))
    · obtain ⟨z1, z2⟩ := List.append_eq_nil_iff.mp zz
      obtain ⟨z3, z4⟩ := List.append_eq_nil_iff.mp z2
      obtain ⟨z5, z6⟩ := List.append_eq_nil_iff.mp z3
      exact ⟨z1, hc (by rw [z1, z6]; rfl)⟩
    · obtain ⟨z1, z2⟩ := List.append_eq_nil_iff.mp zz
      obtain ⟨z3, z4⟩ := List.append_eq_nil_iff.mp z2
      obtain ⟨z5, z6⟩ := List.append_eq_nil_iff.mp z3
      have kn := ife_nil z4
      refine Or.inr ⟨_, _, rfl, x1, x2.trans ?_, x3.trans ?_, x4⟩
      · unfold spE at z5
        unfold spV
        cases hl : lstI vs (nmS t n p) with
        | none =>
          rw [hl] at z5
          cases z5
        | some j =>
          rw [hl] at hv'
          have hv' : v = (j : Int) := hv'
          rw [hv', Int32.ofInt_add]
          rfl
      · cases hk : (enW W.1 W.2.1 W.2.2.1 w).1 (nmS t n (nxS t n (nxS t n p))) with
        | none => exact absurd hk kn
        | some j =>
          rw [hk] at hu
          have hu : u = (j : Int) := hu
          have l24 := hB.2.2.2.2.2.2.1.2.1
          subst hu
          show (if (0 : Int32) < Int32.ofNat j then Int32.ofNat j else 0) = Int32.ofNat j
          by_cases q : 0 < j
          · exact if_pos ((oN_lt (by decide) (by omega)).mpr q)
          · rw [show j = 0 by omega]
            rfl
  · rw [if_neg y2] at ec
    have e3 : ∀ x, hkn t n (enW W.1 W.2.1 W.2.2.1 w).1 (.inr (nxS t n (nxS t n p), x)) = .inl (nxS t n (nxS t n p)) := fun x => if_neg y2
    rw [e3] at b3
    exact cm_end (es2 := [(0, 1)]) (x := .nil) hB3 hm b3 T3 (fun z => by cases z) (fun z => by cases z) (fun τ v v1 v2 f b Tq _ => kd τ v _ ec v1 ((fr.tt m).tr f) b ⟨_, _, Tq⟩)
end CM3

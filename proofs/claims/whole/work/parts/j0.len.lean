/-! THE CLASS: how long a method is -/
theorem wd_24 : ∀ q ∈ wdL, q.2 = 24 → q.1 = 160 := by decide +kernel
theorem st_160 : (stA 160).1 = 6 := by decide +kernel
theorem me_ln {t : Nat → Int32} {n p : Nat} (h : tyS t n p = 24) : p + 6 ≤ nxS t n p := by
  rcases ty_or t n p with q | q | q | q | ⟨_, _, _, q⟩ | ⟨q1, q2, q3, q4, q⟩
  · omega
  · omega
  · omega
  · omega
  · rcases q with q | ⟨q, r1, r2, r3⟩
    · omega
    · have := (mkL2_c q r1).2
      omega
  · rcases q with q | ⟨q, r1, r2, r3⟩
    · omega
    · have e := wd_24 q r1 (by omega)
      rw [e] at r2
      have w := wd_J t p (lnS t n p)
      rw [r2] at w
      have ln : lnS t n p = 6 := by
        rcases w with ⟨j, w1, w2, w3⟩ | ⟨w1, w2⟩
        · have : 160 = j := by
            have := Option.some.inj w2
            exact Sum.inr.inj this
          subst this
          exact w3.1.symm.trans st_160
        · cases w1
      have e1 : enS t n p = p + 6 := by
        unfold enS
        rw [if_pos q2, if_pos q3]
        unfold lnS at ln
        have := (skN_le t n (n - p) p).1
        omega
      unfold nxS
      rw [e1]
      exact skB_ge t n _ _
theorem tl_in {t : Nat → Int32} {n : Nat} {env : Env} {w : Int} {V : List (List Int32)} {p3 p' : Nat} {es : Evs} {Y : Int × Ast × Nat × Ast} (h : pTl t n env w V p3 = .inr (p', es, Y)) : p3 + 3 ≤ p' := by
  unfold pTl at h
  have p34 : p3 ≤ (if rlO (tyS t n p3) = 0 then p3 else nxS t n p3) := by
    by_cases z : rlO (tyS t n p3) = 0
    · rw [if_pos z]
      exact Nat.le_refl _
    · rw [if_neg z]
      have : 2 ≤ tyS t n p3 := by
        rw [rlO_eq] at z
        by_cases q : 25 ≤ tyS t n p3 ∧ tyS t n p3 ≤ 27
        · omega
        · rw [if_neg q] at z
          exact absurd rfl z
      have := nx_le (t := t) (n := n) (p := p3) this
      omega
  generalize (if rlO (tyS t n p3) = 0 then p3 else nxS t n p3) = p4 at p34 h
  cases h1 : pIn t n env p4 with
  | inl q =>
    rw [h1] at h
    cases h
  | inr x5 =>
    obtain ⟨p5, es5, ly⟩ := x5
    rw [h1] at h
    dsimp only at h
    obtain ⟨le5, -⟩ := in_in h1
    cases h2 : pIf t n env V p5 with
    | inl q =>
      rw [h2] at h
      cases h
    | inr x6 =>
      obtain ⟨p6, k6, es6, x⟩ := x6
      rw [h2] at h
      dsimp only at h
      obtain ⟨le6, -⟩ := if_in h2
      by_cases z14 : tyS t n p6 = 14
      · rw [if_pos z14] at h
        have hx6 := nx_le (t := t) (n := n) (p := p6) (by omega)
        cases h3 : pX t n (wiE env w) 12 false V (nxS t n p6) 0 with
        | inl q =>
          rw [h3] at h
          cases h
        | inr x8 =>
          obtain ⟨p8, c8, es8, y⟩ := x8
          rw [h3] at h
          dsimp only at h
          obtain ⟨lt8, -⟩ := ev_x (t := t) (n := n) 12 false _ _ _ _ _ _ _ h3
          by_cases z7 : tyS t n p8 = 7
          · rw [if_pos z7] at h
            have hx8 := nx_le (t := t) (n := n) (p := p8) (by omega)
            have : nxS t n p8 = p' := congrArg Prod.fst (Sum.inr.inj h)
            omega
          · rw [if_neg z7] at h
            cases h
      · rw [if_neg z14] at h
        cases h
theorem me_pr {t : Nat → Int32} {n p p' : Nat} {W W' : Wld} {es : Evs} (hy : tyS t n p = 24) (h : pDe t n W p = .inr (p', es, W')) : p + 12 ≤ p' := by
  have h6 := me_ln hy
  rw [pDe_24 hy] at h
  cases hm : pMt t n (enW W.1 W.2.1 W.2.2.1 (-1)) W.2.2.2.length (nxS t n p) with
  | inl q =>
    rw [hm] at h
    cases h
  | inr x =>
    obtain ⟨p1, e1, D⟩ := x
    rw [hm] at h
    have ep : p1 = p' := congrArg Prod.fst (Sum.inr.inj h)
    rw [mt_eq] at hm
    by_cases z2 : tyS t n (nxS t n p) = 2
    · rw [if_pos z2] at hm
      have hx1 := nx_le (t := t) (n := n) (p := nxS t n p) (by omega)
      by_cases z4 : tyS t n (nxS t n (nxS t n p)) = 4
      · rw [if_pos z4] at hm
        have hx2 := nx_le (t := t) (n := n) (p := nxS t n (nxS t n p)) (by omega)
        cases hs : pSp t n (enW W.1 W.2.1 W.2.2.1 (-1)) (plO (enW W.1 W.2.1 W.2.2.1 (-1)) ((enW W.1 W.2.1 W.2.2.1 (-1)).2.1 (nmS t n (nxS t n p)))) (n + 1 - nxS t n (nxS t n (nxS t n p))) (nxS t n (nxS t n (nxS t n p))) 0 [] (mtE t n (enW W.1 W.2.1 W.2.2.1 (-1)) W.2.2.2.length (nxS t n p)) [] with
        | inl q =>
          rw [hs] at hm
          cases hm
        | inr x3 =>
          obtain ⟨p3, V, es3, acc⟩ := x3
          rw [hs] at hm
          dsimp only at hm
          obtain ⟨l3, -⟩ := ev_sp (a := nxS t n p) _ _ _ _ _ _ _ _ _ _ hs (by omega) (in_app (in_ife (Nat.le_refl _) (by omega)) (in_ife (Nat.le_refl _) (by omega)))
          cases ht : pTl t n (enW W.1 W.2.1 W.2.2.1 (-1)) (wiO ((enW W.1 W.2.1 W.2.2.1 (-1)).2.1 (nmS t n (nxS t n p)))) V p3 with
          | inl q =>
            rw [ht] at hm
            cases hm
          | inr y =>
            obtain ⟨p9, es9, Y⟩ := y
            rw [ht] at hm
            have l9 := tl_in ht
            have : p9 = p1 := congrArg Prod.fst (Sum.inr.inj hm)
            omega
      · rw [if_neg z4] at hm
        cases hm
    · rw [if_neg z2] at hm
      cases hm
/-- a method that breaks nothing is one more -/
theorem me_ad {t : Nat → Int32} {n p p' : Nat} {W W' : Wld} (hy : tyS t n p = 24) (hl : W.2.2.2.length ≤ 120) (h : pDe t n W p = .inr (p', [], W')) : W'.2.2.2.length = W.2.2.2.length + 1 := by
  rw [pDe_24 hy] at h
  cases hm : pMt t n (enW W.1 W.2.1 W.2.2.1 (-1)) W.2.2.2.length (nxS t n p) with
  | inl q =>
    rw [hm] at h
    cases h
  | inr x =>
    obtain ⟨p1, e1, D⟩ := x
    rw [hm] at h
    unfold mtD at h
    have h := congrArg Prod.snd (Sum.inr.inj h)
    have h1 := congrArg Prod.fst h
    have h2 := congrArg Prod.snd h
    dsimp only at h1 h2
    have e0 : e1 = [] := (List.append_eq_nil_iff.mp h1).1
    subst e0
    rw [mt_eq] at hm
    by_cases z2 : tyS t n (nxS t n p) = 2
    · rw [if_pos z2] at hm
      by_cases z4 : tyS t n (nxS t n (nxS t n p)) = 4
      · rw [if_pos z4] at hm
        cases hs : pSp t n (enW W.1 W.2.1 W.2.2.1 (-1)) (plO (enW W.1 W.2.1 W.2.2.1 (-1)) ((enW W.1 W.2.1 W.2.2.1 (-1)).2.1 (nmS t n (nxS t n p)))) (n + 1 - nxS t n (nxS t n (nxS t n p))) (nxS t n (nxS t n (nxS t n p))) 0 [] (mtE t n (enW W.1 W.2.1 W.2.2.1 (-1)) W.2.2.2.length (nxS t n p)) [] with
        | inl q =>
          rw [hs] at hm
          cases hm
        | inr x3 =>
          obtain ⟨p3, V, es3, acc⟩ := x3
          rw [hs] at hm
          dsimp only at hm
          cases ht : pTl t n (enW W.1 W.2.1 W.2.2.1 (-1)) (wiO ((enW W.1 W.2.1 W.2.2.1 (-1)).2.1 (nmS t n (nxS t n p)))) V p3 with
          | inl q =>
            rw [ht] at hm
            cases hm
          | inr y =>
            obtain ⟨p9, es9, Y⟩ := y
            rw [ht] at hm
            have e3 : es3 ++ es9 = [] := congrArg Prod.fst (congrArg Prod.snd (Sum.inr.inj hm))
            have e3 := (List.append_eq_nil_iff.mp e3).1
            subst e3
            have ee := sp_nil _ _ _ _ _ _ _ _ _ hs
            unfold mtE at ee
            have ne : ¬ W.2.2.2.length = 120 := fun q => by
              rw [if_pos q] at ee
              exact absurd ((List.append_eq_nil_iff.mp ee).2) (by simp)
            rw [if_pos (by omega)] at h2
            have h2 : (W.1, W.2.1, W.2.2.1, W.2.2.2 ++ [(D, false)]) = W' := h2
            rw [← h2]
            exact List.length_append
      · rw [if_neg z4] at hm
        cases hm
    · rw [if_neg z2] at hm
      cases hm

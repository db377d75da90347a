/-! THE CLASS: a kind, as the document has it -/
theorem lsE_some {es : Evs} (h : es ≠ []) : ∃ v, lsE es = some v := by
  cases hl : lsE es with
  | none => exact absurd (lsE_nil hl) h
  | some v => exact ⟨v, rfl⟩
/-- what is broken later doesn't count -/
theorem lsE_later {es es' : Evs} {v : Nat × Nat} (h : lsE es = some v) (hl : ∀ e ∈ es', v.1 < e.1) : lsE (es ++ es') = some v := by
  have mv := lsE_mem es v h
  obtain ⟨u, u1, u2⟩ := lsE_le _ (es ++ es') rfl v (List.mem_append_left _ mv)
  have mu := lsE_mem _ u u1
  rcases List.mem_append.mp mu with m | m
  · obtain ⟨v', v1, v2⟩ := lsE_le _ es rfl u m
    rw [h] at v1
    have e := Option.some.inj v1
    subst e
    rw [u1]
    have e1 : u.1 = v.1 := by omega
    have e2 : u.2 = v.2 := by omega
    rw [Prod.ext e1 e2]
  · have := hl u m
    omega
theorem pa_nil {t : Nat → Int32} {n : Nat} {env : Env} : ∀ f p es ps g p' es' ps' g', pPa t n env f p es ps g = .inr (p', es', ps', g') → ps' = [] → g' = false
  | 0, p, es, ps, g, p', es', ps', g', h, _ => by cases h
  | f + 1, p, es, ps, g, p', es', ps', g', h, z => by
    rw [pPa] at h
    split at h
    · split at h
      · exact pa_nil f _ _ _ _ _ _ _ _ h z
      · have h := Sum.inr.inj h
        have h3 : paN t n env (nxS t n p) ps = ps' := congrArg (fun x => x.2.2.1) h
        have h6 : (g && paO t n env (nxS t n p) ps) = g' := congrArg (fun x => x.2.2.2) h
        rw [z] at h3
        have : paO t n env (nxS t n p) ps = false := by
          unfold paN at h3
          unfold paO
          cases hk : env.1 (nmS t n (nxS t n p)) with
          | none => rfl
          | some k =>
            rw [hk] at h3
            dsimp only at h3 ⊢
            by_cases q : k ∈ ps
            · exact decide_eq_false (fun y => y q)
            · rw [if_neg q] at h3
              simp at h3
        rw [this, Bool.and_false] at h6
        exact h6.symm
    · cases h
section RK5
variable {Z : zT} {d : Nat} {t : Nat → Int32} {n N : Nat} {B : Nat × Nat × Nat × Nat × Nat} {C : Nat × Nat × Nat × Nat} {W : Wld} {σ τ υ : Sg} {K : kS} {vs : List (List Int32)} {R : HR}
/-- the end of a kind, in one -/
def kiG (t : Nat → Int32) (n : Nat) (W : Wld) (p1 : Nat) (ps : List Nat) (g : Bool) (es' : Evs) (b : Bool) (p3 : Nat) : Nat ⊕ (Nat × Evs × Option Knd) :=
  if tyS t n p3 = 7 then
    (if W.1.length = 24 ∨ g = false then .inr (nxS t n p3, es', none)
    else .inr (nxS t n p3, es' ++ (if es' = [] ∧ (rwN W.1.length ps (rwW W.1)).2.2.2 = false then [(p1, 5)] else []), some (nmS t n p1, b, ps, (rwN W.1.length ps (rwW W.1)).1, (rwN W.1.length ps (rwW W.1)).2.1, (rwN W.1.length ps (rwW W.1)).2.2.1)))
  else .inl p3
def kiF (t : Nat → Int32) (n : Nat) (W : Wld) (p1 : Nat) (ps : List Nat) (g : Bool) (es' : Evs) (p' : Nat) : Nat ⊕ (Nat × Evs × Option Knd) := kiG t n W p1 ps g es' (decide (tyS t n p' = 21)) (if tyS t n p' = 21 then nxS t n p' else p')
def kiD (W : Wld) : Nat ⊕ (Nat × Evs × Option Knd) → Nat ⊕ (Nat × Evs × Wld)
  | .inl q => .inl q
  | .inr (p', es', o) => .inr (p', es', adO W.1 o, W.2.1, W.2.2.1, W.2.2.2)
def kiH (es : Evs) : Nat ⊕ (Nat × Evs × Option Knd) → HR
  | .inl q => .inl q
  | .inr (p', es', _) => .inr (p', es ++ es')
theorem hDe_20 {p : Nat} {es : Evs} {x : Nat ⊕ (Nat × Evs × Option Knd)} (hy : tyS t n p = 20) (hx : pKi t n (enW W.1 W.2.1 W.2.2.1 (-1)) W.1.length (rwW W.1) (nxS t n p) = x) : pDe t n W p = kiD W x ∧ hDe t n W (.inr (p, es)) = kiH es x := by
  have e : pDe t n W p = kiD W x := by
    unfold pDe
    rw [if_pos hy, hx]
    cases x with
    | inl q => rfl
    | inr y => rfl
  refine ⟨e, ?_⟩
  unfold hDe hbd
  dsimp only
  rw [e]
  cases x with
  | inl q => rfl
  | inr y => rfl
theorem rk_fin {p i p' : Nat} {es es' : Evs} {ps : List Nat} {g : Bool} (hy : tyS t n p = 20) (hy1 : tyS t n (nxS t n p) = 2) (hx : pKi t n (enW W.1 W.2.1 W.2.2.1 (-1)) W.1.length (rwW W.1) (nxS t n p) = kiF t n W (nxS t n p) (paT ps) g es' p') (hes : ∀ v, lsE es = some v → v.1 < p) (hcl : es' = [] → g = true ∧ W.1.length ≠ 24 ∧ toE (enW W.1 W.2.1 W.2.2.1 (-1)) (nmS t n (nxS t n p)) = false) (hi : i ≤ N) (hip : sgP t n i = nxS t n p) (hB : HB t n N B C W σ) (hW : WK W.1 σ) (h : BdS t n N vs (.inr (p', es ++ es')) σ) (hP : PaS ps W.1.length σ) (h0 : 0 < W.1.length) (k : ∀ τ R', HE R' (hDe t n W (.inr (p, es))) → HB t n N B C (nxW t n W (.inr (p, es))) τ → WK (nxW t n W (.inr (p, es))).1 τ → BdS t n N vs R' τ → GfK σ τ → DcF C C σ τ → K (.inl none) τ) : C_X7_readKind_131 Z (d + 7) σ (Int32.ofNat i) K := by
  have l24 := hB.2.2.2.2.2.2.1.2.1
  have hpn : p < nxS t n p := nxS_gt (t := t) (ty_pos (t := t) (n := n) (by omega))
  -- where it ends
  have eb : hba t n (.inr (p', es ++ es')) = .inr (if tyS t n p' = 21 then nxS t n p' else p', es ++ es') := by
    show (if tyS t n p' = 21 then _ else _) = _
    by_cases z : tyS t n p' = 21
    · rw [if_pos z, if_pos z]
    · rw [if_neg z, if_neg z]
  have nil : ∀ p2, htk t n 7 (hba t n (.inr (p', es ++ es'))) = .inr (p2, []) → es = [] ∧ es' = [] ∧ tyS t n (if tyS t n p' = 21 then nxS t n p' else p') = 7 ∧ p2 = nxS t n (if tyS t n p' = 21 then nxS t n p' else p') := fun p2 e => by
    rw [eb] at e
    have e : (if tyS t n (if tyS t n p' = 21 then nxS t n p' else p') = 7 then (.inr (nxS t n (if tyS t n p' = 21 then nxS t n p' else p'), es ++ es') : HR) else .inl (if tyS t n p' = 21 then nxS t n p' else p')) = .inr (p2, []) := e
    by_cases z : tyS t n (if tyS t n p' = 21 then nxS t n p' else p') = 7
    · rw [if_pos z] at e
      have e := Sum.inr.inj e
      obtain ⟨a, b⟩ := List.append_eq_nil_iff.mp (congrArg Prod.snd e)
      exact ⟨a, b, z, (congrArg Prod.fst e).symm⟩
    · rw [if_neg z] at e
      cases e
  obtain ⟨eD, eH⟩ := hDe_20 (es := es) hy hx
  refine rk_131 (nm := nmS t n (nxS t n p)) hi hB hW h (fun _ _ _ => hP) h0 (fun p2 e => ?_) (fun τ z a1 a2 a3 a4 a5 => ?_) (fun τ p2 e r a1 a2 a3 a4 a5 => ?_) (fun τ p2 e r a1 a2 a3 a4 a5 => ?_)
  · obtain ⟨n1, n2, n3, n4⟩ := nil p2 e
    obtain ⟨c1, c2, c3⟩ := hcl n2
    refine ⟨by omega, (toE_no c3).1, nm_ok hy1, ?_, ?_⟩
    · unfold hdS
      rw [hip, if_pos (Or.inl hy1)]
    · unfold tlS
      rw [hip, if_pos (Or.inl hy1)]
  · -- wrong
    have he : HE (htk t n 7 (hba t n (.inr (p', es ++ es')))) (hDe t n W (.inr (p, es))) := by
      rw [eH, eb]
      unfold kiF
      generalize decide (tyS t n p' = 21) = bb
      have z := z
      rw [eb] at z
      generalize (if tyS t n p' = 21 then nxS t n p' else p') = p3 at z ⊢
      unfold kiG
      by_cases z7 : tyS t n p3 = 7
      · have e1 : ∀ x, htk t n 7 (.inr (p3, x)) = .inr (nxS t n p3, x) := fun x => if_pos z7
        rw [e1, if_pos z7]
        by_cases zg : W.1.length = 24 ∨ g = false
        · rw [if_pos zg]
          exact HE.refl _
        · rw [if_neg zg]
          by_cases ze : es' = [] ∧ (rwN W.1.length (paT ps) (rwW W.1)).2.2.2 = false
          · rw [if_pos ze]
            refine ⟨rfl, ?_⟩
            rw [ze.1, List.append_nil, List.nil_append]
            have ne : es ≠ [] := fun q => by
              rw [e1, q, ze.1] at z
              exact clI_nil _ z
            obtain ⟨v, hv⟩ := lsE_some ne
            rw [lsE_later hv (fun e he => ?_), hv]
            rw [List.mem_singleton.mp he]
            have := hes v hv
            show v.1 < nxS t n p
            omega
          · rw [if_neg ze, List.append_nil]
            exact HE.refl _
      · have e1 : ∀ x, htk t n 7 (.inr (p3, x)) = .inl p3 := fun x => if_neg z7
        rw [e1, if_neg z7]
        exact rfl
    have hz : clI (hDe t n W (.inr (p, es))) = 0 := by
      generalize hDe t n W (.inr (p, es)) = R2 at he
      generalize htk t n 7 (hba t n (.inr (p', es ++ es'))) = R1 at he z
      rcases R1 with q | ⟨q, x⟩
      · rcases R2 with q2 | ⟨q2, x2⟩
        · rfl
        · cases he
      · rcases R2 with q2 | ⟨q2, x2⟩
        · rfl
        · have ne : x ≠ [] := fun y => by
            rw [y] at z
            exact clI_nil _ z
          obtain ⟨v, hv⟩ := lsE_some ne
          have h2 := he.2
          rw [hv] at h2
          have ne2 : x2 ≠ [] := fun y => by
            rw [y] at h2
            cases h2
          exact if_neg ne2
    refine k τ _ he ?_ ?_ a3 a4 a5
    · rw [nxW_0 hz]
      exact a1
    · rw [nxW_0 hz]
      exact a2
  · -- one more
    obtain ⟨n1, n2, n3, n4⟩ := nil p2 e
    obtain ⟨c1, c2, c3⟩ := hcl n2
    subst n1 n2
    have ek : kiF t n W (nxS t n p) (paT ps) g [] p' = .inr (p2, [], some (nmS t n (nxS t n p), decide (tyS t n p' = 21), paT ps, (rwN W.1.length (paT ps) (rwW W.1)).1, (rwN W.1.length (paT ps) (rwW W.1)).2.1, (rwN W.1.length (paT ps) (rwW W.1)).2.2.1)) := by
      unfold kiF
      rw [n4]
      generalize (if tyS t n p' = 21 then nxS t n p' else p') = p3 at n3 ⊢
      unfold kiG
      rw [if_pos n3, if_neg (by rw [c1]; simp [c2]), if_neg (by rw [r]; simp)]
      rfl
    rw [ek] at eD eH
    have ew := nxW_some eD
    rw [ew, eH] at k
    exact k τ _ (HE.refl _) a1 a2 a3 a4 a5
  · -- no row can be made
    obtain ⟨n1, n2, n3, n4⟩ := nil p2 e
    obtain ⟨c1, c2, c3⟩ := hcl n2
    subst n1 n2
    have ek : kiF t n W (nxS t n p) (paT ps) g [] p' = .inr (p2, [(nxS t n p, 5)], some (nmS t n (nxS t n p), decide (tyS t n p' = 21), paT ps, (rwN W.1.length (paT ps) (rwW W.1)).1, (rwN W.1.length (paT ps) (rwW W.1)).2.1, (rwN W.1.length (paT ps) (rwW W.1)).2.2.1)) := by
      unfold kiF
      rw [n4]
      generalize (if tyS t n p' = 21 then nxS t n p' else p') = p3 at n3 ⊢
      unfold kiG
      rw [if_pos n3, if_neg (by rw [c1]; simp [c2]), if_pos ⟨rfl, r⟩]
      rfl
    rw [ek] at eD eH
    have ew := nxW_bad eD (by simp)
    rw [ew, eH] at k
    rw [hip] at a3
    exact k τ _ (HE.refl _) a1 a2 a3 a4 a5
/-- dead: nothing more -/
theorem rk_dead {p i q : Nat} {es : Evs} (hy : tyS t n p = 20) (hx : pKi t n (enW W.1 W.2.1 W.2.2.1 (-1)) W.1.length (rwW W.1) (nxS t n p) = .inl q) (hi : i ≤ N) (hB : HB t n N B C W σ) (hW : WK W.1 σ) (h : BdS t n N vs (.inl q) σ) (h0 : 0 < W.1.length) (k : ∀ τ R', HE R' (hDe t n W (.inr (p, es))) → HB t n N B C (nxW t n W (.inr (p, es))) τ → WK (nxW t n W (.inr (p, es))).1 τ → BdS t n N vs R' τ → GfK σ τ → DcF C C σ τ → K (.inl none) τ) : C_X7_readKind_131 Z (d + 7) σ (Int32.ofNat i) K := by
  obtain ⟨eD, eH⟩ := hDe_20 (es := es) hy hx
  have hz : clI (hDe t n W (.inr (p, es))) = 0 := by
    rw [eH]
    rfl
  refine rk_131 (ps := []) (nm := []) hi hB hW h (fun p es e => by cases e) h0 (fun p2 e => by cases e) (fun τ z a1 a2 a3 a4 a5 => k τ (.inl q) (by rw [eH]; exact rfl) ?_ ?_ a3 a4 a5) (fun τ p2 e => by cases e) (fun τ p2 e => by cases e)
  · rw [nxW_0 hz]
    exact a1
  · rw [nxW_0 hz]
    exact a2
theorem cl_kindW {p : Nat} {es : Evs} (hy : tyS t n p = 20) (hes : ∀ v, lsE es = some v → v.1 < p) (hB : HB t n N B C W σ) (hW : WK W.1 σ) (h0 : 0 < W.1.length) (h : BdS t n N vs (.inr (p, es)) σ) (k : ∀ τ R', HE R' (hDe t n W (.inr (p, es))) → HB t n N B C (nxW t n W (.inr (p, es))) τ → WK (nxW t n W (.inr (p, es))).1 τ → BdS t n N vs R' τ → GfK σ τ → DcF C C σ τ → K (.inl none) τ) : C_X7_readKind_0 Z (d + 7) σ K := by
  have l24 := hB.2.2.2.2.2.2.1.2.1
  refine T_X7_readKind_0 hB.1 (h_take (y := 20) (by decide) hB h (fun τ1 f1 b1 => ?_))
  have e1 : htk t n 20 (.inr (p, es)) = .inr (nxS t n p, es) := if_pos hy
  rw [e1] at b1
  have hB1 := hB.hd f1
  obtain ⟨i, i1, i2, -, i4⟩ := b1.pos hB1
  have i4 := i4 _ _ rfl
  refine h_new (s := 0) (len := W.1.length) (most := 24) (w := -1) (by decide) xJ_1.1 (fun τ hτ => hτ.2.2.2.2.2.2.1.1) ⟨l24, by decide⟩ hB1 b1 (fun τ2 f2 b2 => ?_)
  rw [i2]
  have g2 : HdK σ (τ2.wi 2 4 0) := (f1.tr f2).k.tr (HdK.wi (Or.inl ⟨rfl, rfl⟩))
  have hB2 := hB.hk g2
  have hW2 := hW.hk l24 g2
  have b3 := b2.wi (a := 2) (k := 4) (v := 0) (by decide) (by decide)
  have k' : ∀ τ3, HdK (τ2.wi 2 4 0) τ3 → ∀ τ R', HE R' (hDe t n W (.inr (p, es))) → HB t n N B C (nxW t n W (.inr (p, es))) τ → WK (nxW t n W (.inr (p, es))).1 τ → BdS t n N vs R' τ → GfK τ3 τ → DcF C C τ3 τ → K (.inl none) τ := fun τ3 g3 τ R' a1 a2 a3 a4 a5 a6 => k τ R' a1 a2 a3 a4 ((g2.tr g3).gf.tr a5) (((g2.tr g3).dc C).tr a6)
  refine h_sign hB2 b3 ?_
  by_cases y1 : tyS t n (nxS t n p) = 2
  · have e2 : hnw t n (enW W.1 W.2.1 W.2.2.1 (-1)) W.1.length 24 (.inr (nxS t n p, es)) = .inr (nxS t n (nxS t n p), es ++ nmE t n (enW W.1 W.2.1 W.2.2.1 (-1)) (nxS t n p) (W.1.length = 24)) := if_pos y1
    rw [e2] at b3 ⊢
    have hP0 : PaS [] W.1.length (τ2.wi 2 4 0) := ⟨wi_eq, by decide, fun i p hp => by cases hp⟩
    have tb : tyS t n (nxS t n (nxS t n p)) ≤ 52 := ty_b
    show (¬ Int32.ofNat (tyS t n (nxS t n (nxS t n p))) = Int32.ofNat 15 → _) ∧ (Int32.ofNat (tyS t n (nxS t n (nxS t n p))) = Int32.ofNat 15 → _)
    rw [oN_eq (by omega) (by decide)]
    refine ⟨fun z => rk_end hB2.1 ?_, fun z => ?_⟩
    · refine rk_fin (ps := []) (g := true) (es' := nmE t n (enW W.1 W.2.1 W.2.2.1 (-1)) (nxS t n p) (W.1.length = 24)) (p' := nxS t n (nxS t n p)) hy y1 ?_ hes (fun q => ⟨rfl, (nmE_nil q).2, (nmE_nil q).1⟩) i1 i4 hB2 hW2 b3 hP0 h0 (k' _ (HdK.refl _))
      unfold pKi pKp
      rw [if_pos y1, if_neg z]
      rfl
    · obtain ⟨i3, i3N, i3e, -, i3p⟩ := b3.pos hB2
      have i3p := i3p _ _ rfl
      have ek : ∀ y, pPa t n (enW W.1 W.2.1 W.2.2.1 (-1)) (n + 1 - nxS t n (nxS t n p)) (nxS t n (nxS t n p)) (nmE t n (enW W.1 W.2.1 W.2.2.1 (-1)) (nxS t n p) (W.1.length = 24)) [] true = y → pKi t n (enW W.1 W.2.1 W.2.2.1 (-1)) W.1.length (rwW W.1) (nxS t n p) = match y with
          | .inl q => .inl q
          | .inr (p', es', ps, g) => kiF t n W (nxS t n p) ps g es' p' := fun y hy => by
        unfold pKi pKp
        rw [if_pos y1, if_pos z, hy]
        cases y with
        | inl q => rfl
        | inr x => rfl
      refine rk_43 (d := d + 4) hB2 (n + 1 - nxS t n (nxS t n p)) (nxS t n (nxS t n p)) _ [] true (τ2.wi 2 4 0) 0 i3 (Nat.le_refl _) (HdK.refl _) b3 (Or.inl z) hP0 List.nodup_nil (Nat.zero_le _) i3e i3N i3p (fun τ q e g b => ?_) (fun τ p' es' ps' g' e g b hP nd => ?_)
      · exact rk_dead hy (ek _ e) i1 (hB2.hk g) (hW2.hk l24 g) b h0 (k' τ g)
      · have ek := ek _ e
        dsimp only at ek
        have cl : es' = [] → ps' ≠ [] ∧ nmE t n (enW W.1 W.2.1 W.2.2.1 (-1)) (nxS t n p) (W.1.length = 24) = [] ∧ g' = true := fun q => by
          rw [q] at e
          exact pa_ok _ _ _ _ _ _ _ _ e
        by_cases ze : ps' = []
        · -- then something is wrong
          have eg : g' = false := pa_nil _ _ _ _ _ _ _ _ _ e ze
          have ek2 : pKi t n (enW W.1 W.2.1 W.2.2.1 (-1)) W.1.length (rwW W.1) (nxS t n p) = kiF t n W (nxS t n p) (paT ps') g' es' p' := by
            rw [ek, eg]
            unfold kiF kiG
            rw [if_pos (Or.inr rfl), if_pos (Or.inr rfl)]
          exact rk_fin hy y1 ek2 hes (fun q => ⟨(cl q).2.2, (nmE_nil (cl q).2.1).2, (nmE_nil (cl q).2.1).1⟩) i1 i4 (hB2.hk g) (hW2.hk l24 g) b hP h0 (k' τ g)
        · have ep : paT ps' = ps' := if_neg ze
          rw [← ep] at ek
          exact rk_fin hy y1 ek hes (fun q => ⟨(cl q).2.2, (nmE_nil (cl q).2.1).2, (nmE_nil (cl q).2.1).1⟩) i1 i4 (hB2.hk g) (hW2.hk l24 g) b hP h0 (k' τ g)
  · have e2 : hnw t n (enW W.1 W.2.1 W.2.2.1 (-1)) W.1.length 24 (.inr (nxS t n p, es)) = .inl (nxS t n p) := if_neg y1
    rw [e2] at b3 ⊢
    refine ⟨fun _ => rk_end hB2.1 (rk_dead hy ?_ i1 hB2 hW2 b3 h0 (k' _ (HdK.refl _))), fun z => absurd z (show ¬ Int32.ofNat 0 = 15 by decide)⟩
    unfold pKi
    rw [if_neg y1]
end RK5

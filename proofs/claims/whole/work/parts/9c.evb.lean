/-! HOW MUCH CAN BE BROKEN: not more than four rules a sign -/
def Bdf (f : Pf) : Prop := ∀ vs p c p' c' es x, f vs p c = .inr (p', c', es, x) → List.length es + 4 * p ≤ 4 * p'
theorem bnd_inr {r : PR} {f : Nat → Nat → Evs → Ast → PR} {y : Nat × Nat × Evs × Ast} (h : bnd r f = .inr y) : ∃ p c es x, r = .inr (p, c, es, x) ∧ f p c es x = .inr y := by
  rcases r with q | ⟨p, c, es, x⟩
  · cases h
  · exact ⟨p, c, es, x, rfl, h⟩
theorem cnE_len (c w : Nat) : (cnE c w).length ≤ 1 := by
  unfold cnE
  split <;> simp
theorem ife_len (q : Prop) [Decidable q] (e : Nat × Nat) : (if q then [e] else [] : Evs).length ≤ 1 := by
  split <;> simp
section EVB
variable {t : Nat → Int32} {n : Nat} {env : Env}
theorem ty_nx {p : Nat} (h : 2 ≤ tyS t n p) : p + 1 ≤ nxS t n p := nxS_gt (ty_pos h)
theorem bd_lk {sub : Pf} (hs : Bdf sub) {s1 s2 : Nat} (h1 : 2 ≤ s1) (h2 : 2 ≤ s2) {vs : List (List Int32)} : ∀ f p c es l p' c' es' l', pLk t n sub s1 s2 vs f p c es l = .inr (p', c', es', l') → List.length es' + 4 * p ≤ List.length es + 4 * p'
  | 0, p, c, es, l, p', c', es', l', h => by cases h
  | f + 1, p, c, es, l, p', c', es', l', h => by
    rw [pLk] at h
    split at h
    · rename_i hy
      have hn := ty_nx (t := t) (n := n) (p := p) (by omega)
      split at h
      · cases h
      · rename_i p2 c2 es2 y hf
        have g1 := hs _ _ _ _ _ _ _ hf
        have g2 := bd_lk hs h1 h2 f _ _ _ _ _ _ _ _ h
        have g3 := cnE_len c p
        rw [List.length_append, List.length_append] at g2
        omega
    · cases h
      omega
theorem bd_ch {sub : Pf} (hs : Bdf sub) {s1 s2 : Nat} (h1 : 2 ≤ s1) (h2 : 2 ≤ s2) : Bdf (pCh t n sub s1 s2) := by
  intro vs p c p' c' es x h
  unfold pCh at h
  obtain ⟨p1, c1, es1, x1, g1, g2⟩ := bnd_inr h
  have g3 := hs _ _ _ _ _ _ _ g1
  split at g2
  · cases g2
  · rename_i p2 c2 es2 l hl
    cases g2
    have := bd_lk hs h1 h2 _ _ _ _ _ _ _ _ _ hl
    omega
theorem bd_co {sm : Pf} (hs : Bdf sm) : Bdf (pCo t n env sm) := by
  intro vs p c p' c' es x h
  unfold pCo at h
  obtain ⟨p1, c1, es1, x1, g1, g2⟩ := bnd_inr h
  have g3 := hs _ _ _ _ _ _ _ g1
  split at g2
  · rename_i hy
    have hn := ty_nx (t := t) (n := n) (p := p1) (by omega)
    obtain ⟨p2, c2, es2, x2, k1, k2⟩ := bnd_inr g2
    have g4 := hs _ _ _ _ _ _ _ k1
    cases k2
    have := cnE_len c1 p1
    rw [List.length_append, List.length_append]
    omega
  · split at g2
    · rename_i hy
      have hn := ty_nx (t := t) (n := n) (p := p1) (by omega)
      split at g2
      · rename_i hy2
        have hn2 := ty_nx (t := t) (n := n) (p := nxS t n p1) (by omega)
        cases g2
        have := cnE_len c1 p1
        have k3 := ife_len (env.1 (nmS t n (nxS t n p1)) = none) (nxS t n p1, 3)
        rw [List.length_append, List.length_append]
        omega
      · cases g2
    · cases g2
      exact g3
theorem bd_ar {e : Pf} (hs : Bdf e) {most : Nat} {vs : List (List Int32)} : ∀ f p c es l p' c' es' l', 2 ≤ tyS t n p → pAr t n e most vs f p c es l = .inr (p', c', es', l') → List.length es' + 4 * p ≤ List.length es + 4 * p'
  | 0, p, c, es, l, p', c', es', l', _, h => by cases h
  | f + 1, p, c, es, l, p', c', es', l', hp, h => by
    have hn := ty_nx hp
    rw [pAr] at h
    split at h
    · cases h
    · rename_i p2 c2 es2 x hf
      have g1 := hs _ _ _ _ _ _ _ hf
      have k1 := ife_len (0 < most ∧ l.length = most) (nxS t n p, 4)
      split at h
      · rename_i hy
        have g2 := bd_ar hs f _ _ _ _ _ _ _ _ (by omega) h
        rw [List.length_append, List.length_append] at g2
        omega
      · split at h
        · rename_i hy
          have hn2 := ty_nx (t := t) (n := n) (p := p2) (by omega)
          cases h
          have k2 := ife_len (0 < most ∧ l.length + 1 < most) (p2, 4)
          rw [List.length_append, List.length_append, List.length_append]
          omega
        · cases h
theorem bd_an {e : Pf} (hs : Bdf e) {most : Nat} {vs : List (List Int32)} {p c : Nat} {es : Evs} {op : Nat} {v : Int} {p' c' : Nat} {es' : Evs} {x : Ast} (hp : 2 ≤ tyS t n p) (h : pAN t n e most vs p c es op v = .inr (p', c', es', x)) : List.length es' + 4 * p ≤ List.length es + 4 * p' := by
  unfold pAN at h
  split at h
  · cases h
  · rename_i p2 c2 es2 l hl
    cases h
    exact bd_ar hs _ _ _ _ _ _ _ _ _ hp hl
theorem bd_e {e pp : Pf} (he : Bdf e) (hp : Bdf pp) : Bdf (pEb t n env e pp) := by
  intro vs p c p' c' es x h
  have hc := cnE_len c p
  unfold pEb at h
  split at h
  · rename_i hy
    have hn := ty_nx (t := t) (n := n) (p := p) (by omega)
    split at h
    · rename_i hy2
      have hn2 := ty_nx (t := t) (n := n) (p := nxS t n p) (by omega)
      split at h
      · rename_i hy3
        have hn3 := ty_nx (t := t) (n := n) (p := nxS t n (nxS t n p)) (by omega)
        obtain ⟨p1, c1, es1, x1, g1, g2⟩ := bnd_inr h
        have k1 := he _ _ _ _ _ _ _ g1
        split at g2
        · rename_i hy4
          have hn4 := ty_nx (t := t) (n := n) (p := p1) (by omega)
          obtain ⟨p2, c2, es2, x2, g3, g4⟩ := bnd_inr g2
          have k2 := he _ _ _ _ _ _ _ g3
          cases g4
          rw [List.length_append, List.length_append]
          omega
        · cases g2
      · cases h
    · cases h
  · split at h
    · rename_i hy
      have hn := ty_nx (t := t) (n := n) (p := p) (by omega)
      obtain ⟨p1, c1, es1, x1, g1, g2⟩ := bnd_inr h
      have k1 := he _ _ _ _ _ _ _ g1
      split at g2
      · rename_i hy4
        have hn4 := ty_nx (t := t) (n := n) (p := p1) (by omega)
        obtain ⟨p2, c2, es2, x2, g3, g4⟩ := bnd_inr g2
        have k2 := he _ _ _ _ _ _ _ g3
        split at g4
        · rename_i hy5
          have hn5 := ty_nx (t := t) (n := n) (p := p2) (by omega)
          obtain ⟨p3, c3, es3, x3, g5, g6⟩ := bnd_inr g4
          have k3 := he _ _ _ _ _ _ _ g5
          cases g6
          rw [List.length_append, List.length_append, List.length_append]
          omega
        · cases g4
      · cases g2
    · split at h
      · rename_i hy
        have hn := ty_nx (t := t) (n := n) (p := p) (by omega)
        split at h
        · rename_i hy2
          have hn2 := ty_nx (t := t) (n := n) (p := nxS t n p) (by omega)
          split at h
          · rename_i hy3
            have hn3 := ty_nx (t := t) (n := n) (p := nxS t n (nxS t n p)) (by omega)
            obtain ⟨p1, c1, es1, x1, g1, g2⟩ := bnd_inr h
            have k1 := he _ _ _ _ _ _ _ g1
            cases g2
            have k3 := ife_len (env.2.2.1 (nmS t n (nxS t n p)) = none) (nxS t n p, 3)
            rw [List.length_append, List.length_append]
            omega
          · cases h
        · cases h
      · split at h
        · rename_i hy
          have hn := ty_nx (t := t) (n := n) (p := p) (by omega)
          obtain ⟨p1, c1, es1, x1, g1, g2⟩ := bnd_inr h
          have k1 := he _ _ _ _ _ _ _ g1
          split at g2
          · rename_i hy4
            have hn4 := ty_nx (t := t) (n := n) (p := p1) (by omega)
            split at g2
            · rename_i hy5
              have hn5 := ty_nx (t := t) (n := n) (p := nxS t n p1) (by omega)
              split at g2
              · rename_i hy6
                have hn6 := ty_nx (t := t) (n := n) (p := nxS t n (nxS t n p1)) (by omega)
                obtain ⟨p2, c2, es2, x2, g3, g4⟩ := bnd_inr g2
                have k2 := he _ _ _ _ _ _ _ g3
                cases g4
                rw [List.length_append, List.length_append]
                omega
              · cases g2
            · cases g2
          · cases g2
        · split at h
          · rename_i hy
            have hn := ty_nx (t := t) (n := n) (p := p) (by omega)
            obtain ⟨p1, c1, es1, x1, g1, g2⟩ := bnd_inr h
            have k1 := he _ _ _ _ _ _ _ g1
            cases g2
            rw [List.length_append]
            omega
          · exact bd_co (bd_ch (bd_ch hp (by decide) (by decide)) (by decide) (by decide)) _ _ _ _ _ _ _ h
theorem pSg_gt {p p' : Nat} {v : Int} (h : pSg t n p = .inr (v, p')) : p + 1 ≤ p' := by
  unfold pSg at h
  split at h
  · rename_i h1
    have g1 := ty_nx (t := t) (n := n) (p := p) (by omega)
    split at h
    · rename_i h2
      have g2 := ty_nx (t := t) (n := n) (p := nxS t n p) (by omega)
      cases h
      omega
    · cases h
  · split at h
    · rename_i h2
      have g2 := ty_nx (t := t) (n := n) (p := p) (by omega)
      cases h
      omega
    · cases h
theorem bd_p {e pp : Pf} (he : Bdf e) (hp : Bdf pp) : Bdf (pPb t n env e pp) := by
  intro vs p c p' c' es x h
  have hc := cnE_len c p
  unfold pPb at h
  split at h
  · split at h
    · cases h
    · rename_i v p1 hs
      cases h
      have := pSg_gt hs
      omega
  · split at h
    · rename_i hy
      have hn := ty_nx (t := t) (n := n) (p := p) (by omega)
      split at h
      · rename_i hy2
        have l1 : List.length ([(p, 3)] : Evs) = 1 := rfl
        have l0 : List.length ([] : Evs) = 0 := rfl
        cases hk : env.1 (nmS t n p) with
        | some k =>
          rw [hk] at h
          dsimp only at h
          have g := bd_an he (by omega) h
          rw [List.length_append] at g
          have k2 := ife_len (env.2.2.2.1 k = true) (p, 6)
          omega
        | none =>
          rw [hk] at h
          dsimp only at h
          cases hc2 : env.2.1 (nmS t n p) with
          | some k =>
            rw [hc2] at h
            dsimp only at h
            have g := bd_an he (by omega) h
            rw [List.length_append] at g
            omega
          | none =>
            rw [hc2] at h
            dsimp only at h
            have g := bd_an he (by omega) h
            rw [List.length_append] at g
            omega
      · cases h
        have k := ife_len (lstI vs (nmS t n p) = none) (p, 3)
        rw [List.length_append]
        omega
    · split at h
      · rename_i hy
        have hn := ty_nx (t := t) (n := n) (p := p) (by omega)
        have k := ife_len (env.2.2.2.2.2 = -1) (p, 3)
        split at h
        · rename_i hy2
          have g := bd_an he (by omega) h
          rw [List.length_append] at g
          omega
        · cases h
          rw [List.length_append]
          omega
      · split at h
        · rename_i hy
          have hn := ty_nx (t := t) (n := n) (p := p) (by omega)
          obtain ⟨p1, c1, es1, x1, g1, g2⟩ := bnd_inr h
          have k1 := hp _ _ _ _ _ _ _ g1
          cases g2
          rw [List.length_append]
          omega
        · split at h
          · rename_i hy
            have hn := ty_nx (t := t) (n := n) (p := p) (by omega)
            obtain ⟨p1, c1, es1, x1, g1, g2⟩ := bnd_inr h
            have k1 := he _ _ _ _ _ _ _ g1
            split at g2
            · rename_i hy2
              have hn2 := ty_nx (t := t) (n := n) (p := p1) (by omega)
              cases g2
              omega
            · cases g2
          · cases h
theorem bd_x : ∀ (r : Nat) (b : Bool), Bdf (pX t n env r b)
  | 0, _ => by
    intro vs p c p' c' es x h
    cases h
  | r + 1, false => bd_e (bd_x r false) (bd_x r true)
  | r + 1, true => bd_p (bd_x r false) (bd_x r true)
theorem ctE_len (c w : Nat) : (ctE c w).length ≤ 1 := by
  unfold ctE
  split <;> simp
theorem spE_len (vs : List (List Int32)) (nm : List Int32) (w : Nat) : (spE vs nm w).length ≤ 1 := by
  unfold spE
  split <;> simp
theorem pBh_le {p p' : Nat} {v : Int} (h : pBh t n p = .inr (v, p')) : p ≤ p' := by
  unfold pBh at h
  split at h
  · rename_i h1
    have g1 := ty_nx (t := t) (n := n) (p := p) (by omega)
    split at h
    · rename_i h2
      have g2 := ty_nx (t := t) (n := n) (p := nxS t n p) (by omega)
      cases h
      omega
    · cases h
  · cases h
    exact Nat.le_refl _
theorem bd_c2 {vs : List (List Int32)} {p1 k w : Nat} {es : Evs} {pa mo : Int} {p' k' : Nat} {es' : Evs} {x : Ast} (h : pC2 t n vs p1 k w es pa mo = .inr (p', k', es', x)) : List.length es' + 4 * p1 ≤ List.length es + 4 * p' := by
  have hc := ctE_len k w
  unfold pC2 at h
  split at h
  · rename_i hy
    have hn := ty_nx (t := t) (n := n) (p := p1) (by omega)
    split at h
    · rename_i hy2
      have hn2 := ty_nx (t := t) (n := n) (p := nxS t n p1) (by omega)
      split at h
      · cases h
      · rename_i b p2 hb
        have := pBh_le hb
        have hs := spE_len vs (nmS t n (nxS t n p1)) (nxS t n p1)
        cases h
        rw [List.length_append, List.length_append]
        omega
    · split at h
      · cases h
      · rename_i b p2 hb
        have := pSg_gt hb
        cases h
        rw [List.length_append]
        omega
  · cases h
theorem bd_cm : Bdf (pCm t n env) := by
  intro vs p k p' k' es x h
  unfold pCm at h
  split at h
  · rename_i hy
    have hn := ty_nx (t := t) (n := n) (p := p) (by omega)
    have hs := spE_len vs (nmS t n p) p
    split at h
    · rename_i hy2
      have hn2 := ty_nx (t := t) (n := n) (p := nxS t n p) (by omega)
      split at h
      · rename_i hy3
        have hn3 := ty_nx (t := t) (n := n) (p := nxS t n (nxS t n p)) (by omega)
        cases h
        have hc := ctE_len k p
        have k3 := ife_len (env.1 (nmS t n (nxS t n (nxS t n p))) = none) (nxS t n (nxS t n p), 3)
        rw [List.length_append, List.length_append]
        omega
      · cases h
    · split at h
      · cases h
      · rename_i a p1 hb
        have g1 := pBh_le hb
        have g2 := bd_c2 h
        omega
  · split at h
    · cases h
    · rename_i a p1 hb
      have g1 := pSg_gt hb
      have g2 := bd_c2 h
      have : List.length ([] : Evs) = 0 := rfl
      omega
theorem bd_lo {sub : Pf} (hs : Bdf sub) {w op : Nat} (hw : 2 ≤ w) {vs : List (List Int32)} : ∀ f p k es x p' k' es' x', pLo t n sub w op vs f p k es x = .inr (p', k', es', x') → List.length es' + 4 * p ≤ List.length es + 4 * p'
  | 0, p, k, es, x, p', k', es', x', h => by cases h
  | f + 1, p, k, es, x, p', k', es', x', h => by
    rw [pLo] at h
    split at h
    · rename_i hy
      have hn := ty_nx (t := t) (n := n) (p := p) (by omega)
      split at h
      · cases h
      · rename_i p2 k2 es2 y hf
        have g1 := hs _ _ _ _ _ _ _ hf
        have g2 := bd_lo hs hw f _ _ _ _ _ _ _ _ h
        rw [List.length_append] at g2
        omega
    · cases h
      omega
theorem bd_ls {sub : Pf} (hs : Bdf sub) {w op : Nat} (hw : 2 ≤ w) : Bdf (pLs t n sub w op) := by
  intro vs p k p' k' es x h
  unfold pLs at h
  obtain ⟨p1, k1, es1, x1, g1, g2⟩ := bnd_inr h
  have g3 := hs _ _ _ _ _ _ _ g1
  have g4 := bd_lo hs hw _ _ _ _ _ _ _ _ _ g2
  omega
theorem bd_tt {s : Pf} (hs : Bdf s) : Bdf (pTt t n s) := bd_ls (bd_ls hs (by decide)) (by decide)
theorem bd_ts : ∀ r, Bdf (pTs t n env r)
  | 0 => by
    intro vs p k p' k' es x h
    cases h
  | r + 1 => by
    intro vs p k p' k' es x h
    rw [pTs] at h
    dsimp only at h
    split at h
    · rename_i hy
      have hn := ty_nx (t := t) (n := n) (p := p) (by omega)
      obtain ⟨p1, k1, es1, x1, g1, g2⟩ := bnd_inr h
      have g3 := bd_ts r _ _ _ _ _ _ _ g1
      cases g2
      omega
    · split at h
      · rename_i hy
        have hn := ty_nx (t := t) (n := n) (p := p) (by omega)
        obtain ⟨p1, k1, es1, x1, g1, g2⟩ := bnd_inr h
        have g3 := bd_tt (bd_ts r) _ _ _ _ _ _ _ g1
        split at g2
        · rename_i hy2
          have hn2 := ty_nx (t := t) (n := n) (p := p1) (by omega)
          cases g2
          omega
        · cases g2
      · exact bd_cm _ _ _ _ _ _ _ h
theorem dupK_len (vs : List (List Int32)) (nm : List Int32) (p k : Nat) : (dupK vs nm p k).length ≤ k := by
  unfold dupK
  rw [List.length_map]
  refine Nat.le_trans (List.length_filter_le _ _) ?_
  rw [List.length_range]
  exact Nat.le_refl _
theorem bd_sp {places : Nat} : ∀ f p k vs es acc p' V es' acc', List.length vs ≤ 3 → pSp t n env places f p k vs es acc = .inr (p', V, es', acc') → List.length es' + 8 * p ≤ List.length es + 8 * p' ∧ List.length V ≤ 3
  | 0, p, k, vs, es, acc, p', V, es', acc', _, h => by cases h
  | f + 1, p, k, vs, es, acc, p', V, es', acc', hv, h => by
    rw [pSp] at h
    split at h
    · rename_i hy
      have hn := ty_nx (t := t) (n := n) (p := p) (by omega)
      split at h
      · cases h
      · rename_i p1 es1 kd hk
        have hk2 : nxS t n p ≤ p1 ∧ List.length es1 ≤ 1 := by
          unfold pSk at hk
          split at hk
          · rename_i hy2
            have hn2 := ty_nx (t := t) (n := n) (p := nxS t n p) (by omega)
            split at hk
            · rename_i hy3
              have hn3 := ty_nx (t := t) (n := n) (p := nxS t n (nxS t n p)) (by omega)
              cases hk
              exact ⟨by omega, ife_len _ _⟩
            · cases hk
          · cases hk
            exact ⟨Nat.le_refl _, by decide⟩
        split at h
        · cases h
        · rename_i p2 hs v hq
          have hq2 : p1 ≤ p2 := by
            unfold pSq at hq
            split at hq
            · rename_i hy2
              have hn2 := ty_nx (t := t) (n := n) (p := p1) (by omega)
              split at hq
              · cases hq
              · rename_i v' p3 hg
                have := pSg_gt hg
                cases hq
                omega
            · cases hq
              exact Nat.le_refl _
          have k1 := ife_len (0 < places ∧ k = places) (p, 4)
          have k2 := dupK_len vs (nmS t n p) p vs.length
          have hv2 : (if vs.length < 3 then vs ++ [nmS t n p] else vs).length ≤ 3 := by
            split
            · rw [List.length_append]
              show vs.length + 1 ≤ 3
              omega
            · exact hv
          split at h
          · rename_i hy2
            have hn2 := ty_nx (t := t) (n := n) (p := p2) (by omega)
            have g := bd_sp f _ _ _ _ _ _ _ _ _ hv2 h
            rw [List.length_append, List.length_append, List.length_append] at g
            exact ⟨by omega, g.2⟩
          · split at h
            · rename_i hy2
              have hn2 := ty_nx (t := t) (n := n) (p := p2) (by omega)
              cases h
              have k3 := ife_len (0 < places ∧ k + 1 < places) (p2, 4)
              rw [List.length_append, List.length_append, List.length_append, List.length_append]
              exact ⟨by omega, hv2⟩
            · cases h
    · cases h
end EVB

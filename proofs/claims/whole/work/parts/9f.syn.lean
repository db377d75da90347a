/-! WHERE EVENTS LIE; that the syntax doesn't depend on the names told -/
def In (a b : Nat) (es : Evs) : Prop := ∀ e ∈ es, a ≤ e.1 ∧ e.1 < b
theorem in_nil (a b : Nat) : In a b [] := fun e h => by cases h
theorem in_app {a b : Nat} {x y : Evs} (h : In a b x) (g : In a b y) : In a b (x ++ y) := fun e he => (List.mem_append.mp he).elim (h e) (g e)
theorem In.wk {a b a' b' : Nat} {es : Evs} (h : In a b es) (h1 : a' ≤ a) (h2 : b ≤ b') : In a' b' es := fun e he => ⟨Nat.le_trans h1 (h e he).1, Nat.lt_of_lt_of_le (h e he).2 h2⟩
theorem in_one {a b w r : Nat} (h1 : a ≤ w) (h2 : w < b) : In a b [(w, r)] := fun e he => by
  rw [List.mem_singleton] at he
  subst he
  exact ⟨h1, h2⟩
theorem in_ife {a b w r : Nat} {P : Prop} [Decidable P] (h1 : a ≤ w) (h2 : w < b) : In a b (if P then [(w, r)] else []) := by
  split
  · exact in_one h1 h2
  · exact in_nil _ _
theorem in_cn {a b w c : Nat} (h1 : a ≤ w) (h2 : w < b) : In a b (cnE c w) := in_ife h1 h2
theorem in_ct {a b w c : Nat} (h1 : a ≤ w) (h2 : w < b) : In a b (ctE c w) := in_ife h1 h2
theorem in_sp {a b w : Nat} {vs : List (List Int32)} {nm : List Int32} (h1 : a ≤ w) (h2 : w < b) : In a b (spE vs nm w) := in_ife h1 h2
/-- what it reads is something, and all that it breaks lies there -/
def Efv (f : Pf) : Prop := ∀ vs p c p' c' es x, f vs p c = .inr (p', c', es, x) → p < p' ∧ In p p' es
section EFV
variable {t : Nat → Int32} {n : Nat} {env : Env}
theorem ev_lk {sub : Pf} (hs : Efv sub) {s1 s2 : Nat} (h1 : 2 ≤ s1) (h2 : 2 ≤ s2) {vs : List (List Int32)} {a : Nat} : ∀ f p c es l p' c' es' l', pLk t n sub s1 s2 vs f p c es l = .inr (p', c', es', l') → a ≤ p → In a p es → p ≤ p' ∧ In a p' es'
  | 0, p, c, es, l, p', c', es', l', h, _, _ => by cases h
  | f + 1, p, c, es, l, p', c', es', l', h, ha, hi => by
    rw [pLk] at h
    split at h
    · rename_i hy
      have hn := ty_nx (t := t) (n := n) (p := p) (by omega)
      split at h
      · cases h
      · rename_i p2 c2 es2 y hf
        have g1 := hs _ _ _ _ _ _ _ hf
        have g2 := ev_lk hs h1 h2 (a := a) f _ _ _ _ _ _ _ _ h (by omega) (in_app (in_app (hi.wk (Nat.le_refl _) (by omega)) (in_cn ha (by omega))) (g1.2.wk (by omega) (by omega)))
        exact ⟨by omega, g2.2⟩
    · cases h
      exact ⟨Nat.le_refl _, hi⟩
theorem ev_ch {sub : Pf} (hs : Efv sub) {s1 s2 : Nat} (h1 : 2 ≤ s1) (h2 : 2 ≤ s2) : Efv (pCh t n sub s1 s2) := by
  intro vs p c p' c' es x h
  unfold pCh at h
  obtain ⟨p1, c1, es1, x1, g1, g2⟩ := bnd_inr h
  have k1 := hs _ _ _ _ _ _ _ g1
  split at g2
  · cases g2
  · rename_i p2 c2 es2 l hl
    have k2 := ev_lk hs h1 h2 (a := p) _ _ _ _ _ _ _ _ _ hl (by omega) k1.2
    cases g2
    exact ⟨by omega, k2.2⟩
theorem ev_co {sm : Pf} (hs : Efv sm) : Efv (pCo t n env sm) := by
  intro vs p c p' c' es x h
  unfold pCo at h
  obtain ⟨p1, c1, es1, x1, g1, g2⟩ := bnd_inr h
  have k1 := hs _ _ _ _ _ _ _ g1
  split at g2
  · rename_i hy
    have hn := ty_nx (t := t) (n := n) (p := p1) (by omega)
    obtain ⟨p2, c2, es2, x2, g3, g4⟩ := bnd_inr g2
    have k2 := hs _ _ _ _ _ _ _ g3
    cases g4
    exact ⟨by omega, in_app (in_app (k1.2.wk (Nat.le_refl _) (by omega)) (in_cn (by omega) (by omega))) (k2.2.wk (by omega) (Nat.le_refl _))⟩
  · split at g2
    · rename_i hy
      have hn := ty_nx (t := t) (n := n) (p := p1) (by omega)
      split at g2
      · rename_i hy2
        have hn2 := ty_nx (t := t) (n := n) (p := nxS t n p1) (by omega)
        cases g2
        exact ⟨by omega, in_app (in_app (k1.2.wk (Nat.le_refl _) (by omega)) (in_cn (by omega) (by omega))) (in_ife (by omega) (by omega))⟩
      · cases g2
    · cases g2
      exact k1
theorem ev_ar {e : Pf} (he : Efv e) {most : Nat} {vs : List (List Int32)} {a : Nat} : ∀ f p c es l p' c' es' l', 2 ≤ tyS t n p → pAr t n e most vs f p c es l = .inr (p', c', es', l') → a ≤ p → In a p es → p < p' ∧ In a p' es'
  | 0, p, c, es, l, p', c', es', l', _, h, _, _ => by cases h
  | f + 1, p, c, es, l, p', c', es', l', hp, h, ha, hi => by
    rw [pAr] at h
    have hn := ty_nx (t := t) (n := n) (p := p) hp
    split at h
    · cases h
    · rename_i p2 c2 es2 y hf
      have g1 := he _ _ _ _ _ _ _ hf
      split at h
      · rename_i hy
        have g2 := ev_ar he (a := a) f _ _ _ _ _ _ _ _ (by omega) h (by omega) (in_app (in_app (hi.wk (Nat.le_refl _) (by omega)) (in_ife (by omega) (by omega))) (g1.2.wk (by omega) (Nat.le_refl _)))
        exact ⟨by omega, g2.2⟩
      · split at h
        · rename_i hy
          have hn2 := ty_nx (t := t) (n := n) (p := p2) (by omega)
          cases h
          exact ⟨by omega, in_app (in_app (in_app (hi.wk (Nat.le_refl _) (by omega)) (in_ife (by omega) (by omega))) (g1.2.wk (by omega) (by omega))) (in_ife (by omega) (by omega))⟩
        · cases h
theorem ev_an {e : Pf} (he : Efv e) {most : Nat} {vs : List (List Int32)} {p c : Nat} {es : Evs} {op : Nat} {v : Int} {p' c' : Nat} {es' : Evs} {x : Ast} {a : Nat} (hp : 2 ≤ tyS t n p) (h : pAN t n e most vs p c es op v = .inr (p', c', es', x)) (ha : a ≤ p) (hi : In a p es) : p < p' ∧ In a p' es' := by
  unfold pAN at h
  split at h
  · cases h
  · rename_i p2 c2 es2 l hl
    have g := ev_ar he (a := a) _ _ _ _ _ _ _ _ _ hp hl ha hi
    cases h
    exact g
theorem ev_e {e pp : Pf} (he : Efv e) (hp : Efv pp) : Efv (pEb t n env e pp) := by
  intro vs p c p' c' es x h
  unfold pEb at h
  split at h
  · rename_i hy
    have hn := ty_nx (t := t) (n := n) (p := p) (by omega)
    split at h
    · rename_i hy2
      have hn2 := ty_nx (t := t) (n := n) (p := nxS t n p) (by omega)
      split at h
      · rename_i hy3
        have hn3 := ty_nx (t := t) (n := n) (p := nxS t n (nxS t n p)) (by omega)
        obtain ⟨p1, c1, es1, x1, g1, g2⟩ := bnd_inr h
        have k1 := he _ _ _ _ _ _ _ g1
        split at g2
        · rename_i hy4
          have hn4 := ty_nx (t := t) (n := n) (p := p1) (by omega)
          obtain ⟨p2, c2, es2, x2, g3, g4⟩ := bnd_inr g2
          have k2 := he _ _ _ _ _ _ _ g3
          cases g4
          exact ⟨by omega, in_app (in_app (in_cn (by omega) (by omega)) (k1.2.wk (by omega) (by omega))) (k2.2.wk (by omega) (by omega))⟩
        · cases g2
      · cases h
    · cases h
  · split at h
    · rename_i hy
      have hn := ty_nx (t := t) (n := n) (p := p) (by omega)
      obtain ⟨p1, c1, es1, x1, g1, g2⟩ := bnd_inr h
      have k1 := he _ _ _ _ _ _ _ g1
      split at g2
      · rename_i hy4
        have hn4 := ty_nx (t := t) (n := n) (p := p1) (by omega)
        obtain ⟨p2, c2, es2, x2, g3, g4⟩ := bnd_inr g2
        have k2 := he _ _ _ _ _ _ _ g3
        split at g4
        · rename_i hy5
          have hn5 := ty_nx (t := t) (n := n) (p := p2) (by omega)
          obtain ⟨p3, c3, es3, x3, g5, g6⟩ := bnd_inr g4
          have k3 := he _ _ _ _ _ _ _ g5
          cases g6
          exact ⟨by omega, in_app (in_app (in_app (in_cn (by omega) (by omega)) (k1.2.wk (by omega) (by omega))) (k2.2.wk (by omega) (by omega))) (k3.2.wk (by omega) (by omega))⟩
        · cases g4
      · cases g2
    · split at h
      · rename_i hy
        have hn := ty_nx (t := t) (n := n) (p := p) (by omega)
        split at h
        · rename_i hy2
          have hn2 := ty_nx (t := t) (n := n) (p := nxS t n p) (by omega)
          split at h
          · rename_i hy3
            have hn3 := ty_nx (t := t) (n := n) (p := nxS t n (nxS t n p)) (by omega)
            obtain ⟨p1, c1, es1, x1, g1, g2⟩ := bnd_inr h
            have k1 := he _ _ _ _ _ _ _ g1
            cases g2
            exact ⟨by omega, in_app (in_app (in_cn (by omega) (by omega)) (in_ife (by omega) (by omega))) (k1.2.wk (by omega) (by omega))⟩
          · cases h
        · cases h
      · split at h
        · rename_i hy
          have hn := ty_nx (t := t) (n := n) (p := p) (by omega)
          obtain ⟨p1, c1, es1, x1, g1, g2⟩ := bnd_inr h
          have k1 := he _ _ _ _ _ _ _ g1
          split at g2
          · rename_i hy2
            have hn2 := ty_nx (t := t) (n := n) (p := p1) (by omega)
            split at g2
            · rename_i hy3
              have hn3 := ty_nx (t := t) (n := n) (p := nxS t n p1) (by omega)
              split at g2
              · rename_i hy4
                have hn4 := ty_nx (t := t) (n := n) (p := nxS t n (nxS t n p1)) (by omega)
                obtain ⟨p2, c2, es2, x2, g3, g4⟩ := bnd_inr g2
                have k2 := he _ _ _ _ _ _ _ g3
                cases g4
                exact ⟨by omega, in_app (in_app (in_cn (by omega) (by omega)) (k1.2.wk (by omega) (by omega))) (k2.2.wk (by omega) (by omega))⟩
              · cases g2
            · cases g2
          · cases g2
        · split at h
          · rename_i hy
            have hn := ty_nx (t := t) (n := n) (p := p) (by omega)
            obtain ⟨p1, c1, es1, x1, g1, g2⟩ := bnd_inr h
            have k1 := he _ _ _ _ _ _ _ g1
            cases g2
            exact ⟨by omega, in_app (in_cn (by omega) (by omega)) (k1.2.wk (by omega) (by omega))⟩
          · exact ev_co (ev_ch (ev_ch hp (by decide) (by decide)) (by decide) (by decide)) _ _ _ _ _ _ _ h
theorem ev_p {e pp : Pf} (he : Efv e) (hp : Efv pp) : Efv (pPb t n env e pp) := by
  intro vs p c p' c' es x h
  unfold pPb at h
  split at h
  · split at h
    · cases h
    · rename_i v p1 hs
      cases h
      have := pSg_gt hs
      exact ⟨by omega, in_cn (by omega) (by omega)⟩
  · split at h
    · rename_i hy
      have hn := ty_nx (t := t) (n := n) (p := p) (by omega)
      split at h
      · rename_i hy2
        cases hk : env.1 (nmS t n p) with
        | some k =>
          rw [hk] at h
          dsimp only at h
          have g := ev_an he (a := p) (by omega) h (by omega) (in_app (in_cn (by omega) (by omega)) (in_ife (by omega) (by omega)))
          exact ⟨by omega, g.2⟩
        | none =>
          rw [hk] at h
          dsimp only at h
          cases hc2 : env.2.1 (nmS t n p) with
          | some k =>
            rw [hc2] at h
            dsimp only at h
            have g := ev_an he (a := p) (by omega) h (by omega) (in_app (in_cn (by omega) (by omega)) (in_nil _ _))
            exact ⟨by omega, g.2⟩
          | none =>
            rw [hc2] at h
            dsimp only at h
            have g := ev_an he (a := p) (by omega) h (by omega) (in_app (in_cn (by omega) (by omega)) (in_one (by omega) (by omega)))
            exact ⟨by omega, g.2⟩
      · cases h
        exact ⟨by omega, in_app (in_cn (by omega) (by omega)) (in_ife (by omega) (by omega))⟩
    · split at h
      · rename_i hy
        have hn := ty_nx (t := t) (n := n) (p := p) (by omega)
        split at h
        · rename_i hy2
          have g := ev_an he (a := p) (by omega) h (by omega) (in_app (in_cn (by omega) (by omega)) (in_ife (by omega) (by omega)))
          exact ⟨by omega, g.2⟩
        · cases h
          exact ⟨by omega, in_app (in_cn (by omega) (by omega)) (in_ife (by omega) (by omega))⟩
      · split at h
        · rename_i hy
          have hn := ty_nx (t := t) (n := n) (p := p) (by omega)
          obtain ⟨p1, c1, es1, x1, g1, g2⟩ := bnd_inr h
          have k1 := hp _ _ _ _ _ _ _ g1
          cases g2
          exact ⟨by omega, in_app (in_cn (by omega) (by omega)) (k1.2.wk (by omega) (by omega))⟩
        · split at h
          · rename_i hy
            have hn := ty_nx (t := t) (n := n) (p := p) (by omega)
            obtain ⟨p1, c1, es1, x1, g1, g2⟩ := bnd_inr h
            have k1 := he _ _ _ _ _ _ _ g1
            split at g2
            · rename_i hy2
              have hn2 := ty_nx (t := t) (n := n) (p := p1) (by omega)
              cases g2
              exact ⟨by omega, k1.2.wk (by omega) (by omega)⟩
            · cases g2
          · cases h
theorem ev_x : ∀ (r : Nat) (b : Bool), Efv (pX t n env r b)
  | 0, _ => by
    intro vs p c p' c' es x h
    cases h
  | r + 1, false => ev_e (ev_x r false) (ev_x r true)
  | r + 1, true => ev_p (ev_x r false) (ev_x r true)
theorem ev_c2 {vs : List (List Int32)} {p1 k w : Nat} {es : Evs} {pa mo : Int} {p' k' : Nat} {es' : Evs} {x : Ast} {a : Nat} (h : pC2 t n vs p1 k w es pa mo = .inr (p', k', es', x)) (ha : a ≤ w) (hw : w < p1) (hi : In a p1 es) : p1 < p' ∧ In a p' es' := by
  unfold pC2 at h
  split at h
  · rename_i hy
    have hn := ty_nx (t := t) (n := n) (p := p1) (by omega)
    split at h
    · rename_i hy2
      have hn2 := ty_nx (t := t) (n := n) (p := nxS t n p1) (by omega)
      split at h
      · cases h
      · rename_i b p2 hb
        have := pBh_le hb
        cases h
        exact ⟨by omega, in_app (in_app (hi.wk (Nat.le_refl _) (by omega)) (in_ct (by omega) (by omega))) (in_sp (by omega) (by omega))⟩
    · split at h
      · cases h
      · rename_i b p2 hb
        have := pSg_gt hb
        cases h
        exact ⟨by omega, in_app (hi.wk (Nat.le_refl _) (by omega)) (in_ct (by omega) (by omega))⟩
  · cases h
theorem ev_cm : Efv (pCm t n env) := by
  intro vs p k p' k' es x h
  unfold pCm at h
  split at h
  · rename_i hy
    have hn := ty_nx (t := t) (n := n) (p := p) (by omega)
    split at h
    · rename_i hy2
      have hn2 := ty_nx (t := t) (n := n) (p := nxS t n p) (by omega)
      split at h
      · rename_i hy3
        have hn3 := ty_nx (t := t) (n := n) (p := nxS t n (nxS t n p)) (by omega)
        cases h
        exact ⟨by omega, in_app (in_app (in_sp (by omega) (by omega)) (in_ct (by omega) (by omega))) (in_ife (by omega) (by omega))⟩
      · cases h
    · split at h
      · cases h
      · rename_i a p1 hb
        have g1 := pBh_le hb
        have g2 := ev_c2 (a := p) h (by omega) (by omega) (in_sp (by omega) (by omega))
        exact ⟨by omega, g2.2⟩
  · split at h
    · cases h
    · rename_i a p1 hb
      have g1 := pSg_gt hb
      have g2 := ev_c2 (a := p) h (by omega) (by omega) (in_nil _ _)
      exact ⟨by omega, g2.2⟩
theorem ev_lo {sub : Pf} (hs : Efv sub) {w op : Nat} (hw : 2 ≤ w) {vs : List (List Int32)} {a : Nat} : ∀ f p k es x p' k' es' x', pLo t n sub w op vs f p k es x = .inr (p', k', es', x') → a ≤ p → In a p es → p ≤ p' ∧ In a p' es'
  | 0, p, k, es, x, p', k', es', x', h, _, _ => by cases h
  | f + 1, p, k, es, x, p', k', es', x', h, ha, hi => by
    rw [pLo] at h
    split at h
    · rename_i hy
      have hn := ty_nx (t := t) (n := n) (p := p) (by omega)
      split at h
      · cases h
      · rename_i p2 k2 es2 y hf
        have g1 := hs _ _ _ _ _ _ _ hf
        have g2 := ev_lo hs hw (a := a) f _ _ _ _ _ _ _ _ h (by omega) (in_app (hi.wk (Nat.le_refl _) (by omega)) (g1.2.wk (by omega) (by omega)))
        exact ⟨by omega, g2.2⟩
    · cases h
      exact ⟨Nat.le_refl _, hi⟩
theorem ev_ls {sub : Pf} (hs : Efv sub) {w op : Nat} (hw : 2 ≤ w) : Efv (pLs t n sub w op) := by
  intro vs p k p' k' es x h
  unfold pLs at h
  obtain ⟨p1, k1, es1, x1, g1, g2⟩ := bnd_inr h
  have g3 := hs _ _ _ _ _ _ _ g1
  have g4 := ev_lo hs hw (a := p) _ _ _ _ _ _ _ _ _ g2 (by omega) g3.2
  exact ⟨by omega, g4.2⟩
theorem ev_tt {s : Pf} (hs : Efv s) : Efv (pTt t n s) := ev_ls (ev_ls hs (by decide)) (by decide)
theorem ev_ts : ∀ r, Efv (pTs t n env r)
  | 0 => by
    intro vs p k p' k' es x h
    cases h
  | r + 1 => by
    intro vs p k p' k' es x h
    rw [pTs] at h
    dsimp only at h
    split at h
    · rename_i hy
      have hn := ty_nx (t := t) (n := n) (p := p) (by omega)
      obtain ⟨p1, k1, es1, x1, g1, g2⟩ := bnd_inr h
      have g3 := ev_ts r _ _ _ _ _ _ _ g1
      cases g2
      exact ⟨by omega, g3.2.wk (by omega) (by omega)⟩
    · split at h
      · rename_i hy
        have hn := ty_nx (t := t) (n := n) (p := p) (by omega)
        obtain ⟨p1, k1, es1, x1, g1, g2⟩ := bnd_inr h
        have g3 := ev_tt (ev_ts r) _ _ _ _ _ _ _ g1
        split at g2
        · rename_i hy2
          have hn2 := ty_nx (t := t) (n := n) (p := p1) (by omega)
          cases g2
          exact ⟨by omega, g3.2.wk (by omega) (by omega)⟩
        · cases g2
      · exact ev_cm _ _ _ _ _ _ _ h
theorem in_dup {a b p k : Nat} {vs : List (List Int32)} {nm : List Int32} (h1 : a ≤ p) (h2 : p < b) : In a b (dupK vs nm p k) := by
  intro e he
  unfold dupK at he
  obtain ⟨j, -, rfl⟩ := List.mem_map.mp he
  exact ⟨h1, h2⟩
theorem ev_sp {places a : Nat} : ∀ f p k vs es acc p' V es' acc', pSp t n env places f p k vs es acc = .inr (p', V, es', acc') → a ≤ p → In a p es → p < p' ∧ In a p' es'
  | 0, p, k, vs, es, acc, p', V, es', acc', h, _, _ => by cases h
  | f + 1, p, k, vs, es, acc, p', V, es', acc', h, ha, hi => by
    rw [pSp] at h
    split at h
    · rename_i hy
      have hn := ty_nx (t := t) (n := n) (p := p) (by omega)
      split at h
      · cases h
      · rename_i p1 es1 kd hk
        have hk2 : nxS t n p ≤ p1 ∧ In p p1 es1 := by
          unfold pSk at hk
          split at hk
          · rename_i hy2
            have hn2 := ty_nx (t := t) (n := n) (p := nxS t n p) (by omega)
            split at hk
            · rename_i hy3
              have hn3 := ty_nx (t := t) (n := n) (p := nxS t n (nxS t n p)) (by omega)
              cases hk
              exact ⟨by omega, in_ife (by omega) (by omega)⟩
            · cases hk
          · cases hk
            exact ⟨Nat.le_refl _, in_nil _ _⟩
        split at h
        · cases h
        · rename_i p2 hs v hq
          have hq2 : p1 ≤ p2 := by
            unfold pSq at hq
            split at hq
            · rename_i hy2
              have hn2 := ty_nx (t := t) (n := n) (p := p1) (by omega)
              split at hq
              · cases hq
              · rename_i v' p3 hg
                have := pSg_gt hg
                cases hq
                omega
            · cases hq
              exact Nat.le_refl _
          split at h
          · rename_i hy2
            have hn2 := ty_nx (t := t) (n := n) (p := p2) (by omega)
            have g := ev_sp (a := a) f _ _ _ _ _ _ _ _ _ h (by omega) (in_app (in_app (in_app (hi.wk (Nat.le_refl _) (by omega)) (in_ife (by omega) (by omega))) (in_dup (by omega) (by omega))) (hk2.2.wk (by omega) (by omega)))
            exact ⟨by omega, g.2⟩
          · split at h
            · rename_i hy2
              have hn2 := ty_nx (t := t) (n := n) (p := p2) (by omega)
              cases h
              exact ⟨by omega, in_app (in_app (in_app (in_app (hi.wk (Nat.le_refl _) (by omega)) (in_ife (by omega) (by omega))) (in_dup (by omega) (by omega))) (hk2.2.wk (by omega) (by omega))) (in_ife (by omega) (by omega))⟩
            · cases h
    · cases h
theorem ev_mt {mn p p' : Nat} {es : Evs} {D : Mtd} (h : pMt t n env mn p = .inr (p', es, D)) : p < p' ∧ In p p' es := by
  unfold pMt at h
  split at h
  · rename_i hy
    have hn := ty_nx (t := t) (n := n) (p := p) (by omega)
    split at h
    · rename_i hy2
      have hn2 := ty_nx (t := t) (n := n) (p := nxS t n p) (by omega)
      split at h
      · cases h
      · rename_i p3 V es3 acc hs
        have g3 := ev_sp (a := p) _ _ _ _ _ _ _ _ _ _ hs (by omega) (in_app (in_ife (by omega) (by omega)) (in_ife (by omega) (by omega)))
        split at h
        · cases h
        · rename_i p5 es5 ly h5
          have hr : p3 ≤ if rlO (tyS t n p3) = 0 then p3 else nxS t n p3 := by
            split
            · exact Nat.le_refl _
            · rename_i hr
              have hn3 := ty_nx (t := t) (n := n) (p := p3) (by
                unfold rlO at hr
                split at hr
                · omega
                · split at hr
                  · omega
                  · split at hr
                    · omega
                    · exact absurd rfl hr)
              omega
          obtain ⟨p4, hp4⟩ : ∃ q, q = if rlO (tyS t n p3) = 0 then p3 else nxS t n p3 := ⟨_, rfl⟩
          rw [← hp4] at hr h5
          have g5 : p4 ≤ p5 ∧ In p p5 es5 := by
            unfold pIn at h5
            split at h5
            · rename_i y1
              have m1 := ty_nx (t := t) (n := n) (p := p4) (by omega)
              split at h5
              · rename_i y2
                have m2 := ty_nx (t := t) (n := n) (p := nxS t n p4) (by omega)
                cases h5
                exact ⟨by omega, in_ife (by omega) (by omega)⟩
              · cases h5
            · cases h5
              exact ⟨Nat.le_refl _, in_nil _ _⟩
          split at h
          · cases h
          · rename_i p6 k6 es6 x h6
            have g6 : p5 ≤ p6 ∧ In p p6 es6 := by
              unfold pIf at h6
              split at h6
              · rename_i y1
                have m1 := ty_nx (t := t) (n := n) (p := p5) (by omega)
                have m2 := ev_tt (ev_ts 12) _ _ _ _ _ _ _ h6
                exact ⟨by omega, m2.2.wk (by omega) (by omega)⟩
              · cases h6
                exact ⟨Nat.le_refl _, in_nil _ _⟩
            split at h
            · rename_i hy3
              have hn3 := ty_nx (t := t) (n := n) (p := p6) (by omega)
              split at h
              · cases h
              · rename_i p8 c8 es8 y h8
                have g8 := ev_x 12 false _ _ _ _ _ _ _ h8
                split at h
                · rename_i hy4
                  have hn4 := ty_nx (t := t) (n := n) (p := p8) (by omega)
                  cases h
                  exact ⟨by omega, in_app (in_app (in_app (g3.2.wk (by omega) (by omega)) (g5.2.wk (by omega) (by omega))) (g6.2.wk (by omega) (by omega))) (g8.2.wk (by omega) (by omega))⟩
                · cases h
            · cases h
    · cases h
  · cases h
end EFV

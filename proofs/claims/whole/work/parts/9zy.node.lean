/-! NODES, COUNTED: what was read without fault has as many nodes as were counted, 300 at most -/
def ndC : Ast → Nat
  | .tag op (.nest _ (.nest _ (.append a (.append b c)))) => ndC a + ndC b + ndC c + if op = 10 then 0 else 1
  | _ => 0
theorem ndC_2 (op : Nat) (v w : Int) (a b c : Ast) : ndC (aN op v w a b c) = ndC a + ndC b + ndC c + if op = 10 then 0 else 1 := rfl
theorem ndC_nil : ndC .nil = 0 := rfl
def CnE (f : Pf) : Prop := ∀ vs p c p' c' x, f vs p c = .inr (p', c', [], x) → c' = c + ndC x ∧ (c ≤ 300 → c' ≤ 300)
theorem pr_ok3 {p p' c c' : Nat} {es : Evs} {x y : Ast} (h : (.inr (p, c, es, x) : PR) = .inr (p', c', [], y)) : c = c' ∧ es = [] ∧ x = y := by
  cases h
  exact ⟨rfl, rfl, rfl⟩
theorem cnE_ne {c w : Nat} (h : cnE c w = []) : c ≠ 300 := by
  intro z
  subst z
  exact absurd h (by unfold cnE; rw [if_pos (by decide)]; simp)
section CNE
variable {t : Nat → Int32} {n : Nat} {env : Env}
theorem lkA_nd : ∀ (l : List (Nat × Ast)) (s : Nat) (y : Ast), ndC (lkA (l ++ [(s, y)])) = ndC (lkA l) + ndC y + 1
  | [], s, y => by
    show ndC (aN (30 + s) 0 0 y .nil .nil) = _
    rw [ndC_2, if_neg (by omega), ndC_nil]
    show _ = 0 + ndC y + 1
    omega
  | (s', y') :: r, s, y => by
    show ndC (aN (30 + s') 0 0 y' (lkA (r ++ [(s, y)])) .nil) = ndC (aN (30 + s') 0 0 y' (lkA r) .nil) + ndC y + 1
    rw [ndC_2, ndC_2, lkA_nd r s y]
    omega
theorem cn_lk {sub : Pf} (hs : CnE sub) {s1 s2 : Nat} {vs : List (List Int32)} : ∀ f p c es l p' c' l', pLk t n sub s1 s2 vs f p c es l = .inr (p', c', [], l') → es = [] ∧ c' + ndC (lkA l) = c + ndC (lkA l') ∧ (c ≤ 300 → c' ≤ 300)
  | 0, p, c, es, l, p', c', l', h => by cases h
  | f + 1, p, c, es, l, p', c', l', h => by
    rw [pLk] at h
    split at h
    · split at h
      · cases h
      · rename_i p1 c1 es1 y hy
        obtain ⟨g1, g2, g3⟩ := cn_lk hs f _ _ _ _ _ _ _ h
        obtain ⟨g4, g5⟩ := ap_nil g1
        obtain ⟨g6, g7⟩ := ap_nil g4
        rw [g5] at hy
        obtain ⟨k1, k2⟩ := hs _ _ _ _ _ _ hy
        have := cnE_ne g7
        rw [lkA_nd] at g2
        exact ⟨g6, by omega, fun q => g3 (k2 (by omega))⟩
    · cases h
      exact ⟨rfl, rfl, fun q => q⟩
theorem cn_ch {sub : Pf} (hs : CnE sub) {s1 s2 : Nat} : CnE (pCh t n sub s1 s2) := by
  intro vs p c p' c' x h
  unfold pCh at h
  obtain ⟨p1, c1, es1, z, hz, h⟩ := bnd_ok h
  split at h
  · cases h
  · rename_i p2 c2 es2 l hl
    obtain ⟨e0, e1, e2⟩ := pr_ok3 h
    rw [e1] at hl
    obtain ⟨g1, g2, g3⟩ := cn_lk hs _ _ _ _ _ _ _ _ hl
    rw [g1] at hz
    obtain ⟨k1, k2⟩ := hs _ _ _ _ _ _ hz
    have g2 : c2 + 0 = c1 + ndC (lkA l) := g2
    rw [← e2, ← e0]
    refine ⟨?_, fun q => g3 (k2 q)⟩
    unfold mkCh
    split
    · rename_i q
      rw [q] at g2
      have g2 : c2 + 0 = c1 + 0 := g2
      omega
    · rw [ndC_2, if_pos rfl, ndC_nil]
      omega
theorem cn_co {sm : Pf} (hs : CnE sm) : CnE (pCo t n env sm) := by
  intro vs p c p' c' x h
  unfold pCo at h
  obtain ⟨p1, c1, es1, z, hz, h⟩ := bnd_ok h
  split at h
  · obtain ⟨p2, c2, es2, y, hy, h⟩ := bnd_ok h
    obtain ⟨e0, e1, e2⟩ := pr_ok3 h
    obtain ⟨g1, g2⟩ := ap_nil e1
    obtain ⟨g3, g4⟩ := ap_nil g1
    have := cnE_ne g4
    rw [g3] at hz
    rw [g2] at hy
    obtain ⟨k1, k2⟩ := hs _ _ _ _ _ _ hz
    obtain ⟨k3, k4⟩ := hs _ _ _ _ _ _ hy
    rw [← e2, ndC_2, if_neg (by decide), ndC_nil]
    exact ⟨by omega, fun q => by have := k2 q; have := k4 (by omega); omega⟩
  · split at h
    · split at h
      · obtain ⟨e0, e1, e2⟩ := pr_ok3 h
        obtain ⟨g1, g2⟩ := ap_nil e1
        obtain ⟨g3, g4⟩ := ap_nil g1
        have := cnE_ne g4
        rw [g3] at hz
        obtain ⟨k1, k2⟩ := hs _ _ _ _ _ _ hz
        rw [← e2, ndC_2, if_neg (by decide), ndC_nil]
        exact ⟨by omega, fun q => by have := k2 q; omega⟩
      · cases h
    · obtain ⟨e0, e1, e2⟩ := pr_ok3 h
      rw [e1] at hz
      rw [← e2, ← e0]
      exact hs _ _ _ _ _ _ hz
def ndSm (l : List Ast) : Nat := (l.map ndC).sum
theorem ndSm_a (l : List Ast) (x : Ast) : ndSm (l ++ [x]) = ndSm l + ndC x := by
  unfold ndSm
  rw [List.map_append, List.sum_append]
  simp
theorem cn_ar {e : Pf} {most : Nat} (hs : CnE e) {vs : List (List Int32)} : ∀ f p c es l p' c' l', pAr t n e most vs f p c es l = .inr (p', c', [], l') → es = [] ∧ (0 < most → l.length ≤ most → l'.length = most) ∧ c' + ndSm l = c + ndSm l' ∧ (c ≤ 300 → c' ≤ 300)
  | 0, p, c, es, l, p', c', l', h => by cases h
  | f + 1, p, c, es, l, p', c', l', h => by
    rw [pAr] at h
    split at h
    · cases h
    · rename_i p2 c2 es2 x hx
      split at h
      · obtain ⟨g1, g2, g3, g3'⟩ := cn_ar hs f _ _ _ _ _ _ _ h
        obtain ⟨g4, g5⟩ := ap_nil g1
        obtain ⟨g6, g7⟩ := ap_nil g4
        rw [g5] at hx
        obtain ⟨k1, k2⟩ := hs _ _ _ _ _ _ hx
        rw [ndSm_a] at g3
        refine ⟨g6, fun hm hl => g2 hm ?_, by omega, fun q => g3' (k2 q)⟩
        rw [List.length_append]
        show l.length + 1 ≤ most
        by_cases q1 : l.length = most
        · rw [if_pos ⟨hm, q1⟩] at g7
          exact absurd g7 (by simp)
        · omega
      · split at h
        · obtain ⟨e1, e2⟩ := Prod.mk.inj (Sum.inr.inj h)
          obtain ⟨e2, e3⟩ := Prod.mk.inj e2
          obtain ⟨e3, e4⟩ := Prod.mk.inj e3
          obtain ⟨g0, g1⟩ := ap_nil e3
          obtain ⟨g4, g5⟩ := ap_nil g0
          obtain ⟨g6, g7⟩ := ap_nil g4
          rw [g5] at hx
          obtain ⟨k1, k2⟩ := hs _ _ _ _ _ _ hx
          rw [← e4, ndSm_a]
          refine ⟨g6, fun hm hl => ?_, by omega, fun q => by have := k2 q; omega⟩
          rw [List.length_append]
          show l.length + 1 = most
          by_cases q1 : l.length = most
          · rw [if_pos ⟨hm, q1⟩] at g7
            exact absurd g7 (by simp)
          · by_cases q2 : l.length + 1 < most
            · rw [if_pos ⟨hm, q2⟩] at g1
              exact absurd g1 (by simp)
            · omega
        · cases h
theorem cn_an {e : Pf} {most : Nat} (hs : CnE e) {vs : List (List Int32)} (hm : 1 ≤ most ∧ most ≤ 3) {p c p' c' : Nat} {es : Evs} {op : Nat} (ho : op ≠ 10) {v : Int} {x : Ast} (h : pAN t n e most vs p c es op v = .inr (p', c', [], x)) : es = [] ∧ c' + 1 = c + ndC x ∧ (c ≤ 300 → c' ≤ 300) := by
  unfold pAN at h
  split at h
  · cases h
  · rename_i p1 c1 es1 l hl
    obtain ⟨e0, e1, e2⟩ := pr_ok3 h
    rw [e1] at hl
    obtain ⟨g1, g2, g3, g4⟩ := cn_ar hs _ _ _ _ _ _ _ _ hl
    have hlen := g2 hm.1 (Nat.zero_le _)
    have g3 : c1 + 0 = c + ndSm l := g3
    refine ⟨g1, ?_, by rw [← e0]; exact g4⟩
    rw [← e2, ndC_2, if_neg ho]
    have key : ndC (l.getD 0 .nil) + ndC (l.getD 1 .nil) + ndC (l.getD 2 .nil) = ndSm l := by
      match l, hlen with
      | [], hlen => rfl
      | [a], hlen => rfl
      | [a, b], hlen =>
        show ndC a + ndC b + 0 = ndC a + (ndC b + 0)
        omega
      | [a, b, d], hlen =>
        show ndC a + ndC b + ndC d = ndC a + (ndC b + (ndC d + 0))
        omega
      | a :: b :: d :: e :: r, hlen =>
        have hlen : r.length + 1 + 1 + 1 + 1 = most := hlen
        omega
    omega
/-- names of calls, and the own call, have one to three places -/
def CnV (env : Env) : Prop := (∀ nm k, env.2.1 nm = some k → 1 ≤ env.2.2.2.2.1 k ∧ env.2.2.2.2.1 k ≤ 3) ∧ (env.2.2.2.2.2 = -1 ∨ (0 ≤ env.2.2.2.2.2 ∧ 1 ≤ env.2.2.2.2.1 env.2.2.2.2.2.toNat ∧ env.2.2.2.2.1 env.2.2.2.2.2.toNat ≤ 3))
theorem cn_pb {e pp : Pf} (hv : CnV env) (he : CnE e) (hp : CnE pp) : CnE (pPb t n env e pp) := by
  obtain ⟨h1, h2⟩ := hv
  intro vs p c p' c' x h
  unfold pPb at h
  split at h
  · split at h
    · cases h
    · obtain ⟨e0, e1, e2⟩ := pr_ok3 h
      have := cnE_ne e1
      rw [← e2, ndC_2, if_neg (by decide), ndC_nil]
      exact ⟨by omega, fun q => by omega⟩
  · split at h
    · split at h
      · cases hk : env.1 (nmS t n p) with
        | some k =>
          rw [hk] at h
          dsimp only at h
          obtain ⟨g1, g2, g3⟩ := cn_an he (by omega) (by decide) h
          have := cnE_ne (ap_nil g1).1
          exact ⟨by omega, fun q => g3 (by omega)⟩
        | none =>
          rw [hk] at h
          dsimp only at h
          cases hc : env.2.1 (nmS t n p) with
          | none =>
            rw [hc] at h
            dsimp only at h
            exfalso
            unfold pAN at h
            split at h
            · cases h
            · rename_i p1 c1 es1 l hl
              obtain ⟨e0, e1, e2⟩ := pr_ok3 h
              rw [e1] at hl
              have g1 := (cn_ar he _ _ _ _ _ _ _ _ hl).1
              exact absurd (ap_nil g1).2 (by simp)
          | some k =>
            rw [hc] at h
            dsimp only at h
            obtain ⟨g1, g2, g3⟩ := cn_an he (h1 _ _ hc) (by decide) h
            have := cnE_ne (ap_nil g1).1
            exact ⟨by omega, fun q => g3 (by omega)⟩
      · obtain ⟨e0, e1, e2⟩ := pr_ok3 h
        have := cnE_ne (ap_nil e1).1
        rw [← e2, ndC_2, if_neg (by decide), ndC_nil]
        exact ⟨by omega, fun q => by omega⟩
    · split at h
      · split at h
        · rcases h2 with q | ⟨q1, q2⟩
          · exfalso
            unfold pAN at h
            split at h
            · cases h
            · rename_i p1 c1 es1 l hl
              obtain ⟨e0, e1, e2⟩ := pr_ok3 h
              rw [e1] at hl
              have g1 := (cn_ar he _ _ _ _ _ _ _ _ hl).1
              have g2 := (ap_nil g1).2
              rw [if_pos q] at g2
              exact absurd g2 (by simp)
          · rw [if_pos q1] at h
            obtain ⟨g1, g2, g3⟩ := cn_an he q2 (by decide) h
            have := cnE_ne (ap_nil g1).1
            exact ⟨by omega, fun q => g3 (by omega)⟩
        · obtain ⟨e0, e1, e2⟩ := pr_ok3 h
          have := cnE_ne (ap_nil e1).1
          rw [← e2, ndC_2, if_neg (by decide), ndC_nil]
          exact ⟨by omega, fun q => by omega⟩
      · split at h
        · obtain ⟨p1, c1, es1, z, hz, h⟩ := bnd_ok h
          obtain ⟨e0, e1, e2⟩ := pr_ok3 h
          obtain ⟨g1, g2⟩ := ap_nil e1
          have := cnE_ne g1
          rw [g2] at hz
          obtain ⟨k1, k2⟩ := hp _ _ _ _ _ _ hz
          rw [← e2, ndC_2, if_neg (by decide), ndC_nil]
          exact ⟨by omega, fun q => by have := k2 (by omega); omega⟩
        · split at h
          · obtain ⟨p1, c1, es1, z, hz, h⟩ := bnd_ok h
            split at h
            · obtain ⟨e0, e1, e2⟩ := pr_ok3 h
              rw [e1] at hz
              rw [← e2, ← e0]
              exact he _ _ _ _ _ _ hz
            · cases h
          · cases h
theorem cn_eb {e pp : Pf} (he : CnE e) (hp : CnE pp) : CnE (pEb t n env e pp) := by
  intro vs p c p' c' x h
  unfold pEb at h
  split at h
  · split at h
    · split at h
      · obtain ⟨p1, c1, es1, z, hz, h⟩ := bnd_ok h
        split at h
        · obtain ⟨p2, c2, es2, y, hy, h⟩ := bnd_ok h
          obtain ⟨e0, e1, e2⟩ := pr_ok3 h
          obtain ⟨g1, g2⟩ := ap_nil e1
          obtain ⟨g3, g4⟩ := ap_nil g1
          have := cnE_ne g3
          rw [g4] at hz
          rw [g2] at hy
          obtain ⟨k1, k2⟩ := he _ _ _ _ _ _ hz
          obtain ⟨k3, k4⟩ := he _ _ _ _ _ _ hy
          rw [← e2, ndC_2, if_neg (by decide), ndC_nil]
          exact ⟨by omega, fun q => by have := k2 (by omega); have := k4 (by omega); omega⟩
        · cases h
      · cases h
    · cases h
  · split at h
    · obtain ⟨p1, c1, es1, z, hz, h⟩ := bnd_ok h
      split at h
      · obtain ⟨p2, c2, es2, y, hy, h⟩ := bnd_ok h
        split at h
        · obtain ⟨p3, c3, es3, u, hu, h⟩ := bnd_ok h
          obtain ⟨e0, e1, e2⟩ := pr_ok3 h
          obtain ⟨g1, g2⟩ := ap_nil e1
          obtain ⟨g3, g4⟩ := ap_nil g1
          obtain ⟨g5, g6⟩ := ap_nil g3
          have := cnE_ne g5
          rw [g6] at hz
          rw [g4] at hy
          rw [g2] at hu
          obtain ⟨k1, k2⟩ := he _ _ _ _ _ _ hz
          obtain ⟨k3, k4⟩ := he _ _ _ _ _ _ hy
          obtain ⟨k5, k6⟩ := he _ _ _ _ _ _ hu
          rw [← e2, ndC_2, if_neg (by decide)]
          exact ⟨by omega, fun q => by have := k2 (by omega); have := k4 (by omega); have := k6 (by omega); omega⟩
        · cases h
      · cases h
    · split at h
      · split at h
        · split at h
          · obtain ⟨p1, c1, es1, z, hz, h⟩ := bnd_ok h
            obtain ⟨e0, e1, e2⟩ := pr_ok3 h
            obtain ⟨g1, g2⟩ := ap_nil e1
            obtain ⟨g3, g4⟩ := ap_nil g1
            have := cnE_ne g3
            rw [g2] at hz
            obtain ⟨k1, k2⟩ := he _ _ _ _ _ _ hz
            rw [← e2, ndC_2, if_neg (by split <;> decide), ndC_nil]
            exact ⟨by omega, fun q => by have := k2 (by omega); omega⟩
          · cases h
        · cases h
      · split at h
        · obtain ⟨p1, c1, es1, z, hz, h⟩ := bnd_ok h
          split at h
          · split at h
            · split at h
              · obtain ⟨p2, c2, es2, y, hy, h⟩ := bnd_ok h
                obtain ⟨e0, e1, e2⟩ := pr_ok3 h
                obtain ⟨g1, g2⟩ := ap_nil e1
                obtain ⟨g3, g4⟩ := ap_nil g1
                have := cnE_ne g3
                rw [g4] at hz
                rw [g2] at hy
                obtain ⟨k1, k2⟩ := he _ _ _ _ _ _ hz
                obtain ⟨k3, k4⟩ := he _ _ _ _ _ _ hy
                rw [← e2, ndC_2, if_neg (by decide), ndC_nil]
                exact ⟨by omega, fun q => by have := k2 (by omega); have := k4 (by omega); omega⟩
              · cases h
            · cases h
          · cases h
        · split at h
          · obtain ⟨p1, c1, es1, z, hz, h⟩ := bnd_ok h
            obtain ⟨e0, e1, e2⟩ := pr_ok3 h
            obtain ⟨g1, g2⟩ := ap_nil e1
            have := cnE_ne g1
            rw [g2] at hz
            obtain ⟨k1, k2⟩ := he _ _ _ _ _ _ hz
            rw [← e2, ndC_2, if_neg (by split <;> decide), ndC_nil]
            exact ⟨by omega, fun q => by have := k2 (by omega); omega⟩
          · exact cn_co (cn_ch (cn_ch hp)) _ _ _ _ _ _ h
theorem cn_x (hv : CnV env) : ∀ r b, CnE (pX t n env r b)
  | 0, b => fun vs p c p' c' x h => by cases h
  | r + 1, false => cn_eb (cn_x hv r false) (cn_x hv r true)
  | r + 1, true => cn_pb hv (cn_x hv r false) (cn_x hv r true)
/-- bodies of a world: 300 nodes at most -/
def NdW (W : Wld) : Prop := ∀ x ∈ W.2.2.2, ndC x.1.2.2.2.2.2.1 ≤ 300
theorem cn_enW {W : Wld} (hC : WfC W.2.1) {w : Int} (hw : w = -1 ∨ (0 ≤ w ∧ w.toNat < W.2.1.length)) : CnV (enW W.1 W.2.1 W.2.2.1 w) := by
  obtain ⟨h1, h2, h3, h4, h5, h6, h7, h8⟩ := ev_w hC hw
  refine ⟨fun nm k h => ?_, ?_⟩
  · have := h7 k (h2 nm k h)
    rw [h5]
    exact this
  · rcases h8 with q | ⟨q1, q2⟩
    · exact Or.inl (h6.trans q)
    · have := h7 _ q2
      rw [h5, h6]
      exact Or.inr ⟨q1, this⟩
theorem mt_nd {W : Wld} (hC : WfC W.2.1) {mn p p' : Nat} {D : Mtd} (h : pMt t n (enW W.1 W.2.1 W.2.2.1 (-1)) mn p = .inr (p', [], D)) (hwf : WfM W D) : ndC D.2.2.2.2.2.1 ≤ 300 := by
  obtain ⟨k, hk1, hk2, -⟩ := hwf
  unfold pMt at h
  split at h
  · split at h
    · split at h
      · cases h
      · split at h
        · cases h
        · split at h
          · cases h
          · split at h
            · split at h
              · cases h
              · rename_i p8 c8 es8 y hy
                split at h
                · have e0 := (Prod.mk.inj (Sum.inr.inj h)).2
                  have e1 := (Prod.mk.inj e0).1
                  have e2 := (Prod.mk.inj e0).2
                  have g8 := (ap_nil e1).2
                  rw [g8] at hy
                  rw [← e2] at hk1 ⊢
                  cases hc : (enW W.1 W.2.1 W.2.2.1 (-1)).2.1 (nmS t n p) with
                  | none =>
                    rw [hc] at hk1
                    have hk1 : (-1 : Int) = (k : Int) := hk1
                    omega
                  | some k' =>
                    rw [hc] at hk1 hy
                    have hk1 : (k' : Int) = (k : Int) := hk1
                    have := cn_x (t := t) (n := n) (cn_enW hC (w := (k' : Int)) (Or.inr ⟨by omega, by omega⟩)) 12 false _ _ _ _ _ _ hy
                    have := this.1
                    have hc8 := (cn_x (t := t) (n := n) (cn_enW hC (w := (k' : Int)) (Or.inr ⟨by omega, by omega⟩)) 12 false _ _ _ _ _ _ hy).2 (by omega)
                    show ndC y ≤ 300
                    omega
                · cases h
            · cases h
    · cases h
  · cases h
theorem de_nd {p p' : Nat} {W W' : Wld} (h : pDe t n W p = .inr (p', [], W')) (hW : WfW W) (hN : NdW W) : NdW W' := by
  obtain ⟨h1, hC, hM⟩ := hW
  unfold pDe at h
  split at h
  · split at h
    · cases h
    · cases h
      exact hN
  · split at h
    · split at h
      · cases h
      · cases h
        exact hN
    · split at h
      · split at h
        · cases h
        · cases h
          exact hN
      · split at h
        · split at h
          · cases h
          · rename_i p2 es D hm
            have e0 := (Prod.mk.inj (Sum.inr.inj h)).2
            have e1 := (Prod.mk.inj e0).1
            have e2 := (Prod.mk.inj e0).2
            have he : es = [] := (ap_nil e1).1
            subst he
            have hk := mt_nd hC hm (mt_wf h1 hC hm)
            rw [← e2]
            intro x hx
            have hx : x ∈ (if W.2.2.2.length < 120 then W.2.2.2 ++ [(D, false)] else W.2.2.2) := hx
            split at hx
            · rcases List.mem_append.mp hx with z | z
              · exact hN x z
              · rw [List.mem_singleton] at z
                rw [z]
                exact hk
            · exact hN x hx
        · cases h
theorem tx_nd : ∀ f (W W' : Wld) p p', pTx t n f W p = .inr (p', [], W') → WfW W → NdW W → NdW W'
  | 0, W, W', p, p', h, _, _ => by cases h
  | f + 1, W, W', p, p', h, hW, hN => by
    rw [pTx] at h
    split at h
    · cases h
    · rename_i p2 es W2 hde
      split at h
      · cases h
        exact de_nd hde hW hN
      · split at h
        · cases h
        · rename_i p3 es2 W3 htx
          have e0 := (Prod.mk.inj (Sum.inr.inj h)).2
          have e1 := (Prod.mk.inj e0).1
          have e2 := (Prod.mk.inj e0).2
          by_cases he : es = []
          · rw [if_pos he] at e1
            rw [he] at hde
            rw [e1] at htx
            rw [← e2]
            exact tx_nd f _ _ _ _ htx (de_wf hde hW) (de_nd hde hW hN)
          · rw [if_neg he] at e1
            exact absurd e1 he
end CNE
/-- a chain's links are nodes -/
theorem lk_nd {E : Wev} {b : Ast} {nv : Nat} (h : exW E b true nv) : lkN b ≤ ndC b := by
  refine ex_ind (P := fun x lk nv => lk = true → lkN x ≤ ndC x) ?_ ?_ ?_ ?_ ?_ ?_ ?_ ?_ ?_ ?_ ?_ ?_ ?_ ?_ b true nv h rfl
  case refine_14 =>
    intro op v w a b nv ho _ hb _ _
    rw [ndC_2, if_neg (by omega)]
    show lkN b + 1 ≤ _
    rcases hb with rfl | ⟨_, hb⟩
    · show 0 + 1 ≤ _
      omega
    · have := hb rfl
      omega
  all_goals intros
  all_goals contradiction

/-! THE CLASS: layers and calls, the heap behind them -/
section LC3
variable {Z : zT} {d : Nat} {t : Nat → Int32} {n N : Nat} {B : Nat × Nat × Nat × Nat × Nat} {C : Nat × Nat × Nat × Nat} {W : Wld} {σ τ υ : Sg} {K : kS} {vs : List (List Int32)}
theorem nxW_some {p p' : Nat} {W' : Wld} (h : pDe t n W p = .inr (p', [], W')) : nxW t n W (.inr (p, [])) = W' := by
  unfold nxW
  dsimp only
  rw [h]
theorem nxW_ev {p : Nat} {es : Evs} (h : es ≠ []) : nxW t n W (.inr (p, es)) = W := by
  cases es with
  | nil => exact absurd rfl h
  | cons a r => rfl
theorem nxW_bad {p p' : Nat} {es : Evs} {W' : Wld} (h : pDe t n W p = .inr (p', es, W')) (he : es ≠ []) : nxW t n W (.inr (p, [])) = W := by
  unfold nxW
  dsimp only
  rw [h]
  cases es with
  | nil => exact absurd rfl he
  | cons a r => rfl
theorem nxW_no {p q : Nat} (h : pDe t n W p = .inl q) : nxW t n W (.inr (p, [])) = W := by
  unfold nxW
  dsimp only
  rw [h]
theorem clI_ne {R : HR} (h : clI R ≠ 0) : ∃ p, R = .inr (p, []) := by
  rcases R with q | ⟨p, es⟩
  · exact absurd rfl h
  · by_cases y : es = []
    · exact ⟨p, by rw [y]⟩
    · exact absurd (if_neg y) h
theorem clI_nil (p : Nat) : clI (.inr (p, [])) ≠ 0 := by
  show (if ([] : Evs) = [] then (1 : Int32) else 0) ≠ 0
  rw [if_pos rfl]
  decide
/-- what was not read without fault leaves the world -/
theorem nxW_0 {p : Nat} {es : Evs} (h : clI (hDe t n W (.inr (p, es))) = 0) : nxW t n W (.inr (p, es)) = W := by
  by_cases y : es = []
  · subst y
    have e : hDe t n W (.inr (p, [])) = match pDe t n W p with
      | .inl q => .inl q
      | .inr (p', es', _) => .inr (p', [] ++ es') := rfl
    rw [e] at h
    cases g : pDe t n W p with
    | inl q => exact nxW_no g
    | inr x =>
      obtain ⟨p', es', W'⟩ := x
      rw [g] at h
      by_cases z : es' = []
      · subst z
        exact absurd h (clI_nil p')
      · exact nxW_bad g z
  · exact nxW_ev y
/-- a layer -/
theorem cl_layerW {p : Nat} {es : Evs} (hy : tyS t n p = 23) (hB : HB t n N B C W σ) (h : BdS t n N vs (.inr (p, es)) σ) (k : ∀ τ, HB t n N B C (nxW t n W (.inr (p, es))) τ → BdS t n N vs (hDe t n W (.inr (p, es))) τ → ((∀ a k, ¬ (a = 40 ∧ 3 ≤ k ∧ k ≤ 6) → ¬ (a = 28 ∧ (k = 3 ∨ k = 2)) → τ.i a k = σ.i a k) ∧ (∀ a k, a ≠ 29 → a ≠ 30 → τ.l a k = σ.l a k) ∧ τ.sh = σ.sh) → DcF C C σ τ → K (.inl none) τ) : C_X7_readLayer_0 Z (d + 4) σ K := by
  have ep : lyH t n (enW W.1 W.2.1 W.2.2.1 (-1)) W.2.2.1.length (.inr (p, es)) = hDe t n W (.inr (p, es)) := by
    unfold lyH hDe hbd pDe
    have e1 : htk t n 23 (.inr (p, es)) = .inr (nxS t n p, es) := if_pos hy
    rw [e1]
    dsimp only
    rw [if_neg (by omega), if_neg (by omega), if_pos hy]
    unfold pLy
    generalize nxS t n p = p1
    by_cases y1 : tyS t n p1 = 2
    · have e2 : hnw t n (enW W.1 W.2.1 W.2.2.1 (-1)) W.2.2.1.length 8 (.inr (p1, es)) = .inr (nxS t n p1, es ++ nmE t n (enW W.1 W.2.1 W.2.2.1 (-1)) p1 (W.2.2.1.length = 8)) := if_pos y1
      rw [e2, if_pos y1]
      generalize nxS t n p1 = p2
      by_cases y2 : tyS t n p2 = 7
      · have e3 : ∀ x, htk t n 7 (.inr (p2, x)) = .inr (nxS t n p2, x) := fun x => if_pos y2
        rw [e3, if_pos y2]
      · have e3 : ∀ x, htk t n 7 (.inr (p2, x)) = .inl p2 := fun x => if_neg y2
        rw [e3, if_neg y2]
    · have e2 : hnw t n (enW W.1 W.2.1 W.2.2.1 (-1)) W.2.2.1.length 8 (.inr (p1, es)) = .inl p1 := if_neg y1
      rw [e2, if_neg y1]
      rfl
  refine cl_layerD (w := -1) hB h (fun τ z f b => ?_) (fun τ p3 x e1 e2 l8 f b => ?_)
  · rw [ep] at z b
    refine k τ ?_ b ⟨fun a j q1 q2 => f.2.2.1 a j q1 (fun z => q2 ⟨z.1, Or.inl z.2⟩), fun a j q1 q2 => f.2.2.2 a j (by omega), f.1⟩ (f.dc C)
    rw [nxW_0 z]
    exact hB.hd f
  · have e2 : (p, es) = x := Sum.inr.inj e2
    subst e2
    rw [ep] at e1
    -- nothing was wrong, so this is one more
    have hp : ∃ nm, pDe t n W p = .inr (p3, [], W.1, W.2.1, W.2.2.1 ++ [nm], W.2.2.2) ∧ nm = nmS t n (nxS t n p) ∧ nm ∉ W.2.2.1 ∧ es = [] ∧ tyS t n (nxS t n p) = 2 := by
      unfold hDe hbd at e1
      dsimp only at e1
      cases g : pDe t n W p with
      | inl q =>
        rw [g] at e1
        cases e1
      | inr x =>
        obtain ⟨p', es', W'⟩ := x
        rw [g] at e1
        have e1 := Sum.inr.inj e1
        have a1 : p' = p3 := congrArg Prod.fst e1
        obtain ⟨a2, a3⟩ := List.append_eq_nil_iff.mp (congrArg Prod.snd e1)
        subst a1 a2 a3
        have g0 := g
        unfold pDe at g
        rw [if_neg (by omega), if_neg (by omega), if_pos hy] at g
        unfold pLy at g
        by_cases y1 : tyS t n (nxS t n p) = 2
        · rw [if_pos y1] at g
          by_cases y2 : tyS t n (nxS t n (nxS t n p)) = 7
          · rw [if_pos y2] at g
            dsimp only at g
            have g2 := congrArg Prod.snd (Sum.inr.inj g)
            have g3 := congrArg Prod.fst g2
            have g4 := congrArg Prod.snd g2
            dsimp only at g3 g4
            obtain ⟨z3, z4⟩ := nmE_nil g3
            rw [if_neg z4] at g4
            have g5 : W' = (W.1, W.2.1, W.2.2.1 ++ [nmS t n (nxS t n p)], W.2.2.2) := g4.symm
            rw [g5]
            exact ⟨nmS t n (nxS t n p), rfl, rfl, (toE_no z3).2.2, rfl, y1⟩
          · rw [if_neg y2] at g
            cases g
        · rw [if_neg y1] at g
          cases g
    obtain ⟨nm, g, e3, nn, e4, y1⟩ := hp
    subst e4
    have eR : hDe t n W (.inr (p, [])) = .inr (p3, []) := e1
    have eW := nxW_some g
    rw [eR, eW] at k
    have hx : (p, ([] : Evs)).1 = p := rfl
    rw [hx, ← e3]
    refine k _ ((hB.hd f).ly l8 nn (by rw [e3]; exact nm_ok y1)) ?_ ⟨fun a j q1 q2 => (wi_ne (fun z => q2 ⟨z.1, Or.inr z.2⟩)).trans (f.2.2.1 a j q1 (fun z => q2 ⟨z.1, Or.inl z.2⟩)), fun a j q1 q2 => (wl_ne (σ := τ.wl 29 _ _) (by omega)).trans ((wl_ne (by omega)).trans (f.2.2.2 a j (by omega))), f.1⟩ ((((f.dc C).wl (by omega)).wl (by omega)).wi (Or.inl (by omega)))
    obtain ⟨⟨⟨i, i1, i2, i3⟩, b2⟩, ⟨b4, b5, b6⟩, ru, hev⟩ := b
    refine ⟨⟨⟨i, i1, (wi_ne (by decide)).trans i2, i3⟩, (wi_ne (by decide)).trans b2⟩, ⟨(wi_ne (by decide)).trans b4, b5, b6.keep (fun j hj => ⟨?_, ?_⟩)⟩, ?_, hev⟩
    · show ((τ.wl 29 _ _).wl 30 _ _).l 29 _ = _
      exact (wl_ne (by omega)).trans (wl_ne (by omega))
    · show ((τ.wl 29 _ _).wl 30 _ _).l 30 _ = _
      exact (wl_ne (by omega)).trans (wl_ne (by omega))
    · unfold RuC at ru ⊢
      rw [wi_ne (by decide), wi_ne (by decide)]
      exact ru
end LC3

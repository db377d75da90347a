/-! THE CLASS: a text read, one declaration -/
/-- a world has grown from another -/
def PfW (W0 W : Wld) : Prop := W0.1 <+: W.1 ∧ W0.2.1 <+: W.2.1 ∧ W0.2.2.1 <+: W.2.2.1 ∧ W0.2.2.2 <+: W.2.2.2
theorem PfW.refl (W : Wld) : PfW W W := ⟨List.prefix_refl _, List.prefix_refl _, List.prefix_refl _, List.prefix_refl _⟩
theorem PfW.tr {W0 W1 W2 : Wld} (h : PfW W0 W1) (g : PfW W1 W2) : PfW W0 W2 := ⟨h.1.trans g.1, h.2.1.trans g.2.1, h.2.2.1.trans g.2.2.1, h.2.2.2.trans g.2.2.2⟩
theorem ad_pf {α : Type} (l : List α) (o : Option α) : l <+: adO l o := by
  cases o with
  | none => exact List.prefix_refl _
  | some x => exact List.prefix_append _ _
section TX1
variable {t : Nat → Int32} {n : Nat} {W : Wld}
/-- what a declaration makes of the world -/
theorem de_pf {p p' : Nat} {es : Evs} {W' : Wld} (h : pDe t n W p = .inr (p', es, W')) : PfW W W' ∧ (tyS t n p ≠ 20 → W'.1 = W.1) ∧ (tyS t n p ≠ 22 → W'.2.1 = W.2.1) ∧ (tyS t n p ≠ 24 → W'.2.2.2 = W.2.2.2) := by
  unfold pDe at h
  by_cases z20 : tyS t n p = 20
  · rw [if_pos z20] at h
    split at h
    · cases h
    · have h := congrArg (fun x => x.2.2) (Sum.inr.inj h)
      dsimp only at h
      rw [← h]
      exact ⟨⟨ad_pf _ _, List.prefix_refl _, List.prefix_refl _, List.prefix_refl _⟩, fun q => absurd z20 q, fun _ => rfl, fun _ => rfl⟩
  · rw [if_neg z20] at h
    by_cases z22 : tyS t n p = 22
    · rw [if_pos z22] at h
      split at h
      · cases h
      · have h := congrArg (fun x => x.2.2) (Sum.inr.inj h)
        dsimp only at h
        rw [← h]
        exact ⟨⟨List.prefix_refl _, ad_pf _ _, List.prefix_refl _, List.prefix_refl _⟩, fun _ => rfl, fun q => absurd z22 q, fun _ => rfl⟩
    · rw [if_neg z22] at h
      by_cases z23 : tyS t n p = 23
      · rw [if_pos z23] at h
        split at h
        · cases h
        · have h := congrArg (fun x => x.2.2) (Sum.inr.inj h)
          dsimp only at h
          rw [← h]
          exact ⟨⟨List.prefix_refl _, List.prefix_refl _, ad_pf _ _, List.prefix_refl _⟩, fun _ => rfl, fun _ => rfl, fun _ => rfl⟩
      · rw [if_neg z23] at h
        by_cases z24 : tyS t n p = 24
        · rw [if_pos z24] at h
          split at h
          · cases h
          · have h := congrArg (fun x => x.2.2) (Sum.inr.inj h)
            dsimp only at h
            rw [← h]
            refine ⟨⟨List.prefix_refl _, List.prefix_refl _, List.prefix_refl _, ?_⟩, fun _ => rfl, fun _ => rfl, fun q => absurd z24 q⟩
            show W.2.2.2 <+: if W.2.2.2.length < 120 then _ else _
            by_cases y : W.2.2.2.length < 120
            · rw [if_pos y]
              exact List.prefix_append _ _
            · rw [if_neg y]
              exact List.prefix_refl _
        · rw [if_neg z24] at h
          cases h
theorem nx_pf (R : HR) : PfW W (nxW t n W R) ∧ (∀ p es, R = .inr (p, es) → (tyS t n p ≠ 20 → (nxW t n W R).1 = W.1) ∧ (tyS t n p ≠ 22 → (nxW t n W R).2.1 = W.2.1) ∧ (tyS t n p ≠ 24 → (nxW t n W R).2.2.2 = W.2.2.2)) ∧ (WfW W → WfW (nxW t n W R)) := by
  have same : nxW t n W R = W → PfW W (nxW t n W R) ∧ (∀ p es, R = .inr (p, es) → (tyS t n p ≠ 20 → (nxW t n W R).1 = W.1) ∧ (tyS t n p ≠ 22 → (nxW t n W R).2.1 = W.2.1) ∧ (tyS t n p ≠ 24 → (nxW t n W R).2.2.2 = W.2.2.2)) ∧ (WfW W → WfW (nxW t n W R)) := fun e => by
    rw [e]
    exact ⟨PfW.refl _, fun _ _ _ => ⟨fun _ => rfl, fun _ => rfl, fun _ => rfl⟩, fun h => h⟩
  rcases R with q | ⟨p, es⟩
  · exact same rfl
  · by_cases y : es = []
    · subst y
      cases g : pDe t n W p with
      | inl q => exact same (nxW_no g)
      | inr x =>
        obtain ⟨p', es', W'⟩ := x
        by_cases z : es' = []
        · subst z
          rw [nxW_some g]
          obtain ⟨g1, g2, g3, g4⟩ := de_pf g
          exact ⟨g1, fun p2 es2 e => (by cases e; exact ⟨g2, g3, g4⟩), de_wf g⟩
        · exact same (nxW_bad g z)
    · exact same (nxW_ev y)
end TX1
/-- room: the rows of code grow, and nothing else -/
def RmC (C C' : Nat × Nat × Nat × Nat) (σ τ : Sg) : Prop := szS τ.sh + 6 * C.1 = szS σ.sh + 6 * C'.1 ∧ 601 * τ.sh.length + C.1 ≤ 601 * σ.sh.length + C'.1
theorem RmC.tr {C C' C2 : Nat × Nat × Nat × Nat} {σ τ υ : Sg} (h : RmC C C' σ τ) (g : RmC C' C2 τ υ) : RmC C C2 σ υ := by
  obtain ⟨h1, h2⟩ := h
  obtain ⟨g1, g2⟩ := g
  exact ⟨by omega, by omega⟩
theorem RmC.eq {C : Nat × Nat × Nat × Nat} {σ τ : Sg} (h : τ.sh = σ.sh) : RmC C C σ τ := by
  unfold RmC
  rw [h]
  exact ⟨rfl, Nat.le_refl _⟩
/-- what a text's reading leaves -/
def TxF (u : Nat) (C C' : Nat × Nat × Nat × Nat) (σ τ : Sg) : Prop := DcF C C' σ τ ∧ RmC C C' σ τ ∧ (∀ a j, 34 ≤ a → a ≤ 39 → τ.i a j = σ.i a j) ∧ (∀ j, j ≤ u → τ.i 14 j = σ.i 14 j) ∧ CdK C C' σ τ
theorem TxF.tr {u v : Nat} {C C' C2 : Nat × Nat × Nat × Nat} {σ τ υ : Sg} (h : TxF u C C' σ τ) (g : TxF v C' C2 τ υ) (hv : u ≤ v) : TxF u C C2 σ υ := ⟨h.1.tr g.1, h.2.1.tr g.2.1, fun a j q1 q2 => (g.2.2.1 a j q1 q2).trans (h.2.2.1 a j q1 q2), fun j q => (g.2.2.2.1 j (by omega)).trans (h.2.2.2.1 j q), h.2.2.2.2.tr g.2.2.2.2 h.1⟩
theorem TxF.refl (u : Nat) (C : Nat × Nat × Nat × Nat) (σ : Sg) : TxF u C C σ σ := ⟨DcF.refl _ _, RmC.eq rfl, fun _ _ _ _ => rfl, fun _ _ => rfl, CdK.ke (fun _ _ _ => rfl)⟩
/-- the world, in the heap -/
def CWS (t : Nat → Int32) (n N : Nat) (B : Nat × Nat × Nat × Nat × Nat) (C : Nat × Nat × Nat × Nat) (W : Wld) (a : Nat) (σ : Sg) : Prop := HB t n N B C W σ ∧ WK W.1 σ ∧ WJ W.2.1 σ ∧ WMc C a W.2.2.2 σ ∧ WfW W
section TX2
variable {Z : zT} {d : Nat} {t : Nat → Int32} {n N : Nat} {B : Nat × Nat × Nat × Nat × Nat} {C : Nat × Nat × Nat × Nat} {W : Wld} {σ τ υ : Sg} {K : kS} {vs : List (List Int32)}
theorem GfM.tx {u : Nat} {C' : Nat × Nat × Nat × Nat} (h : GfM u C C' σ τ) (hc : 1804 ≤ C.1) : TxF u C C' σ τ := by
  refine ⟨h.2.1, ?_, fun a j q1 q2 => h.1.1 a j (by omega), h.1.2, h.2.2.2⟩
  rcases h.2.2.1 with q | q
  · rw [q.2]
    exact RmC.eq q.1
  · unfold RmC
    rw [q.1, szS_app, szS_app, szS_app, List.length_append, List.length_append, List.length_append]
    have e : szS [Sh.arr 0 C'.1] = C'.1 := by
      unfold szS
      simp [slS]
    rw [e]
    have l1 : ([Sh.arr 0 C'.1] : List Sh).length = 1 := rfl
    rw [l1]
    omega
/-- one declaration; j turns are over -/
theorem tx_one {p a : Nat} {es : Evs} {l3 : Int32} (hd : 210 ≤ d) (S : CWS t n N B C W a σ) (h : BdS t n N vs (.inr (p, es)) σ) (hes : ∀ v, lsE es = some v → v.1 < p) (hat : a + 902 ≤ 923648) (hy : tyS t n p = 20 ∨ tyS t n p = 22 ∨ tyS t n p = 23 ∨ tyS t n p = 24) (k : ∀ τ C' a' vs' R', HE R' (hDe t n W (.inr (p, es))) → CWS t n N B C' (nxW t n W (.inr (p, es))) a' τ → BdS t n N vs' R' τ → TxF W.2.2.2.length C C' σ τ → (a' = a ∨ (tyS t n p = 24 ∧ a' ≤ a + 901)) → C_X7_readText_22 Z (d + 1) τ (l3 + 1) K) : C_X7_readText_51 Z (d + 1) σ l3 K := by
  obtain ⟨e0, rfl⟩ : ∃ e, d = e + 7 := ⟨d - 7, by omega⟩
  obtain ⟨hB, hK, hJ, hM, hWf⟩ := S
  have l24 := hB.2.2.2.2.2.2.1.2.1
  have tb : tyS t n p ≤ 52 := ty_b
  have hCo := hB.2.2.2.2.1
  obtain ⟨-, -, -, -, y0, y1, y2, -⟩ := hCo
  obtain ⟨n1, n2, n3⟩ := nx_pf (t := t) (n := n) (W := W) (.inr (p, es))
  have n2 := n2 p es rfl
  refine T_X7_readText_51 hB.1 (h_sign hB h ?_)
  show (Int32.ofNat (tyS t n p) = Int32.ofNat 20 → _) ∧ (Int32.ofNat (tyS t n p) = Int32.ofNat 22 → _) ∧ (Int32.ofNat (tyS t n p) = Int32.ofNat 23 → _) ∧ (Int32.ofNat (tyS t n p) = Int32.ofNat 24 → _) ∧ (¬ Int32.ofNat (tyS t n p) = Int32.ofNat 20 → ¬ Int32.ofNat (tyS t n p) = Int32.ofNat 22 → ¬ Int32.ofNat (tyS t n p) = Int32.ofNat 23 → ¬ Int32.ofNat (tyS t n p) = Int32.ofNat 24 → _)
  rw [oN_eq (by omega) (by decide), oN_eq (by omega) (by decide), oN_eq (by omega) (by decide), oN_eq (by omega) (by decide)]
  refine ⟨fun z => ?_, fun z => ?_, fun z => ?_, fun z => ?_, fun z1 z2 z3 z4 => absurd hy (by omega)⟩
  · refine cl_kindW (d := e0) z hes hB hK (by have := hWf.1; omega) h (fun τ1 R' g1 g2 g3 g4 g5 g6 => ?_)
    have e2 := n2.2.1 (by omega)
    have e4 := n2.2.2 (by omega)
    refine k τ1 C a vs R' g1 ⟨g2, g3, ?_, ?_, n3 hWf⟩ g4 ⟨g6, RmC.eq g5.2.2, fun a j q1 q2 => g5.1 a j (by omega) (by omega) (by omega), fun j _ => g5.1 14 j (by omega) (by omega) (by omega), CdK.ke (fun a j q => g5.1 a j (by omega) (by omega) (by omega))⟩ (Or.inl rfl)
    · rw [e2]
      exact hJ.keep (fun k _ => ⟨g5.1 32 k (by omega) (by omega) (by omega), g5.1 33 k (by omega) (by omega) (by omega)⟩)
    · rw [e4]
      exact hM.keep (g5.1 10 0 (by omega) (by omega) (by omega)) ((g5.1 24 3 (by omega) (by omega) (by omega)).trans hM.2.2.1) ⟨Nat.le_refl _, hM.2.2.2.1.2⟩ (fun a j q => g5.1 a j (by unfold mtI at q; omega) (by unfold mtI at q; omega) (by unfold mtI at q; omega)) (fun a j q => g5.2.1 a j (by unfold mtL at q; omega) (by unfold mtL at q; omega)) (fun j _ => ⟨g5.1 _ j (by omega) (by omega) (by omega), g5.1 _ j (by omega) (by omega) (by omega), g5.1 _ j (by omega) (by omega) (by omega)⟩)
  · refine cl_callW (d := e0 + 3) z hB hJ h (fun τ1 g2 g3 g4 g5 g6 => ?_)
    have e1 := n2.1 (by omega)
    have e4 := n2.2.2 (by omega)
    refine k τ1 C a vs _ (HE.refl _) ⟨g2, ?_, g3, ?_, n3 hWf⟩ g4 ⟨g6, RmC.eq g5.2.2, fun a j q1 q2 => g5.1 a j (by omega) (by omega) (by omega) (by omega) (by omega), fun j _ => g5.1 14 j (by omega) (by omega) (by omega) (by omega) (by omega), CdK.ke (fun a j q => g5.1 a j (by omega) (by omega) (by omega) (by omega) (by omega))⟩ (Or.inl rfl)
    · rw [e1]
      exact hK.keep l24 (fun k _ => ⟨g5.1 4 k (by omega) (by omega) (by omega) (by omega) (by omega), g5.1 5 k (by omega) (by omega) (by omega) (by omega) (by omega), fun w _ i _ => ⟨g5.1 7 _ (by omega) (by omega) (by omega) (by omega) (by omega), g5.1 8 _ (by omega) (by omega) (by omega) (by omega) (by omega)⟩⟩)
    · rw [e4]
      exact hM.keep (g5.1 10 0 (by omega) (by omega) (by omega) (by omega) (by omega)) ((g5.1 24 3 (by omega) (by omega) (by omega) (by omega) (by omega)).trans hM.2.2.1) ⟨Nat.le_refl _, hM.2.2.2.1.2⟩ (fun a j q => by unfold mtI at q; exact g5.1 a j (by omega) (by omega) (by omega) (by omega) (by omega)) (fun a j q => g5.2.1 a j (by unfold mtL at q; omega) (by unfold mtL at q; omega)) (fun j _ => ⟨g5.1 _ j (by omega) (by omega) (by omega) (by omega) (by omega), g5.1 _ j (by omega) (by omega) (by omega) (by omega) (by omega), g5.1 _ j (by omega) (by omega) (by omega) (by omega) (by omega)⟩)
  · refine cl_layerW (d := e0 + 3) z hB h (fun τ1 g2 g4 g5 g6 => ?_)
    have e1 := n2.1 (by omega)
    have e2 := n2.2.1 (by omega)
    have e4 := n2.2.2 (by omega)
    refine k τ1 C a vs _ (HE.refl _) ⟨g2, ?_, ?_, ?_, n3 hWf⟩ g4 ⟨g6, RmC.eq g5.2.2, fun a j q1 q2 => g5.1 a j (by omega) (by omega), fun j _ => g5.1 14 j (by omega) (by omega), CdK.ke (fun a j q => g5.1 a j (by omega) (by omega))⟩ (Or.inl rfl)
    · rw [e1]
      exact hK.keep l24 (fun k _ => ⟨g5.1 4 k (by omega) (by omega), g5.1 5 k (by omega) (by omega), fun w _ i _ => ⟨g5.1 7 _ (by omega) (by omega), g5.1 8 _ (by omega) (by omega)⟩⟩)
    · rw [e2]
      exact hJ.keep (fun k _ => ⟨g5.1 32 k (by omega) (by omega), g5.1 33 k (by omega) (by omega)⟩)
    · rw [e4]
      exact hM.keep (g5.1 10 0 (by omega) (by omega)) ((g5.1 24 3 (by omega) (by omega)).trans hM.2.2.1) ⟨Nat.le_refl _, hM.2.2.2.1.2⟩ (fun a j q => by unfold mtI at q; exact g5.1 a j (by omega) (by omega)) (fun a j q => g5.2.1 a j (by unfold mtL at q; omega) (by unfold mtL at q; omega)) (fun j _ => ⟨g5.1 _ j (by omega) (by omega), g5.1 _ j (by omega) (by omega), g5.1 _ j (by omega) (by omega)⟩)
  · refine cl_methW (d := e0 + 6) (by omega) z hes hB hWf hM hat h (fun τ1 C' a1 vs' R' g1 g2 g3 g4 g5 g6 g7 => ?_)
    have cle := hM.2.2.2.1.2.2.le
    refine k τ1 C' a1 vs' R' g1 ⟨g2, ?_, ?_, g3, n3 hWf⟩ g6 (g7.tx cle.1) (Or.inr ⟨z, g5⟩)
    · rw [g4.1]
      exact hK.keep l24 (fun k _ => ⟨g7.1.1 4 k (by omega), g7.1.1 5 k (by omega), fun w _ i _ => ⟨g7.1.1 7 _ (by omega), g7.1.1 8 _ (by omega)⟩⟩)
    · rw [g4.2]
      exact hJ.keep (fun k _ => ⟨g7.1.1 32 k (by omega), g7.1.1 33 k (by omega)⟩)
end TX2

/-! THE REFERENCE'S READER: readText() -/
theorem ls_keep {E es : Evs} {w : Nat × Nat} {p p' : Nat} (h : lsE E = some w) (hw : w.1 < p) (hi : In p p' es) : lsE (E ++ es) = some w := by
  have key : ∀ (l : Evs), (∀ e ∈ l, p ≤ e.1) → l.foldl lsA (some w) = some w := by
    intro l
    induction l with
    | nil => intro _; rfl
    | cons e l ih =>
      intro hl
      have h1 := hl e (List.mem_cons_self ..)
      have e1 : lsA (some w) e = some w := if_neg (by omega)
      rw [List.foldl_cons, e1]
      exact ih (fun x hx => hl x (List.mem_cons_of_mem _ hx))
  unfold lsE at h ⊢
  rw [List.foldl_append, h]
  exact key es (fun e he => (hi e he).1)
theorem ls_some {es : Evs} (h : es ≠ []) : ∃ w, lsE es = some w := by
  have key : ∀ (l : Evs) (w : Nat × Nat), ∃ v, l.foldl lsA (some w) = some v := by
    intro l
    induction l with
    | nil => intro w; exact ⟨w, rfl⟩
    | cons e l ih =>
      intro w
      rw [List.foldl_cons]
      have : ∃ v, lsA (some w) e = some v := by
        unfold lsA
        dsimp only
        split
        · exact ⟨_, rfl⟩
        · exact ⟨_, rfl⟩
      obtain ⟨v, hv⟩ := this
      rw [hv]
      exact ih v
  cases es with
  | nil => exact absurd rfl h
  | cons e l => exact key l e
theorem pa_wi {t : Nat → Int32} {n : Nat} {env : Env} {w : Int} : ∀ f p es ps g, pPa t n (wiE env w) f p es ps g = pPa t n env f p es ps g
  | 0, p, es, ps, g => rfl
  | f + 1, p, es, ps, g => by
    rw [pPa, pPa]
    split
    · split
      · exact pa_wi f _ _ _ _
      · rfl
    · rfl
theorem ki_wi {t : Nat → Int32} {n : Nat} {env : Env} {w : Int} {kn : Nat} {rs : Nat → Nat → List Nat} {p : Nat} : pKi t n (wiE env w) kn rs p = pKi t n env kn rs p := by
  have e : pKp t n (wiE env w) = pKp t n env := by
    funext p es
    unfold pKp
    rw [pa_wi]
  unfold pKi
  rw [e]
  rfl
theorem cl_wi {t : Nat → Int32} {n : Nat} {env : Env} {w : Int} {cn p : Nat} : pCl t n (wiE env w) cn p = pCl t n env cn p := rfl
theorem ly_wi {t : Nat → Int32} {n : Nat} {env : Env} {w : Int} {ln p : Nat} : pLy t n (wiE env w) ln p = pLy t n env ln p := rfl
section DEPS
variable {t : Nat → Int32} {n : Nat} {p : Nat}
theorem de_20 (h : tyS t n p = 20) (W : Wld) (env : Env) (kn : Nat) (rs : Nat → Nat → List Nat) : psR (pDe t n W p) = psR (pKi t n env kn rs (nxS t n p)) := by
  unfold pDe
  rw [if_pos h]
  rcases ps_or (sy_ki (t := t) (n := n) (env := enW W.1 W.2.1 W.2.2.1 (-1)) (env' := env) (kn := W.1.length) (kn' := kn) (rs := rwW W.1) (rs' := rs) (p := nxS t n p)) with ⟨q, e1, e2⟩ | ⟨p2, ⟨es2, x2⟩, ⟨es3, x3⟩, e1, e2⟩
  · rw [e1, e2]
    rfl
  · rw [e1, e2]
    rfl
theorem de_22 (h : tyS t n p = 22) (W : Wld) (env : Env) (kn : Nat) : psR (pDe t n W p) = psR (pCl t n env kn (nxS t n p)) := by
  unfold pDe
  rw [if_neg (by omega), if_pos h]
  rcases ps_or (sy_cl (t := t) (n := n) (env := enW W.1 W.2.1 W.2.2.1 (-1)) (env' := env) (cn := W.2.1.length) (cn' := kn) (p := nxS t n p)) with ⟨q, e1, e2⟩ | ⟨p2, ⟨es2, x2⟩, ⟨es3, x3⟩, e1, e2⟩
  · rw [e1, e2]
    rfl
  · rw [e1, e2]
    rfl
theorem de_23 (h : tyS t n p = 23) (W : Wld) (env : Env) (kn : Nat) : psR (pDe t n W p) = psR (pLy t n env kn (nxS t n p)) := by
  unfold pDe
  rw [if_neg (by omega), if_neg (by omega), if_pos h]
  rcases ps_or (sy_ly (t := t) (n := n) (env := enW W.1 W.2.1 W.2.2.1 (-1)) (env' := env) (ln := W.2.2.1.length) (ln' := kn) (p := nxS t n p)) with ⟨q, e1, e2⟩ | ⟨p2, ⟨es2, x2⟩, ⟨es3, x3⟩, e1, e2⟩
  · rw [e1, e2]
    rfl
  · rw [e1, e2]
    rfl
theorem de_24 (h : tyS t n p = 24) (W : Wld) (env : Env) (kn : Nat) : psR (pDe t n W p) = psR (pMt t n env kn (nxS t n p)) := by
  unfold pDe
  rw [if_neg (by omega), if_neg (by omega), if_neg (by omega), if_pos h]
  rcases ps_or (sy_mt (t := t) (n := n) (env := enW W.1 W.2.1 W.2.2.1 (-1)) (env' := env) (mn := W.2.2.2.length) (mn' := kn) (p := nxS t n p)) with ⟨q, e1, e2⟩ | ⟨p2, ⟨es2, x2⟩, ⟨es3, x3⟩, e1, e2⟩
  · rw [e1, e2]
    rfl
  · rw [e1, e2]
    rfl
theorem de_no (h0 : tyS t n p ≠ 20) (h2 : tyS t n p ≠ 22) (h3 : tyS t n p ≠ 23) (h4 : tyS t n p ≠ 24) (W : Wld) : pDe t n W p = .inl p := by
  unfold pDe
  rw [if_neg h0, if_neg h2, if_neg h3, if_neg h4]
end DEPS
section TEXTD
variable {Z : zT} {d : Nat} {t : Nat → Int32} {n : Nat} {env : Env} {B : Int32 × Int32 × Rf} {B1 : Int32} {σ0 σ τ υ : Sg} {k0 c0 l0 m0 : Nat} {ks : List Knd} {cs : List Cal} {ls : List (List Int32)} {ms : List (Mtd × Bool)} {w : Int} {p p' c : Nat} {vs : List (Nat × Nat)} {es es' E : Evs} {i0 mn m : Nat} {lst lst0 : List Nat} {cap cap0 u u' : Nat} {K : kS} {M : Nat}
theorem cur_end (h : Cur t n p τ) : τ.i 0 17 = 0 ↔ tyS t n p = 0 := by
  have h17 : τ.i 0 17 = soS t n p := h.2.2.2.1
  rw [h17]
  rcases ty_or t n p with y | y | y | y | y | y
  · exact ⟨fun _ => y.1, fun _ => y.2.1⟩
  · rw [y.2, y.1]
    decide
  · rw [y.2.1, y.1]
    decide
  · rw [y.2.1, y.1]
    decide
  · rw [y.1]
    refine ⟨fun z => absurd z (by decide), fun z => ?_⟩
    rcases y.2.2.2 with q | ⟨q, q1, -, q3⟩
    · omega
    · have := (mkL2_c q q1).2.1
      omega
  · rw [y.1]
    refine ⟨fun z => absurd z (by decide), fun z => ?_⟩
    rcases y.2.2.2.2 with q | ⟨q, q1, -, q3⟩
    · omega
    · have := (wdL_c q q1).2.1
      omega
/-- the four words -/
theorem tx_4 (hZ : ZK Z) (hd : 17 ≤ d) (S : RX t n env B σ p E m lst cap u)
    (h20 : tyS t n p = 20 → ∀ τ, RX t n env B τ (nxS t n p) E m lst cap u → RF 5 0 σ τ lst cap lst cap (fun _ => False) → B_X23_kind_0 Z d τ (yN K fun υ => (¬ (υ.i 0 17) = 0 → B_X23_readText_4 Z (d + 1) υ K) ∧ ((υ.i 0 17) = 0 → K (.inl none) υ)))
    (h22 : tyS t n p = 22 → ∀ τ, RX t n env B τ (nxS t n p) E m lst cap u → RF 5 0 σ τ lst cap lst cap (fun _ => False) → B_X23_call_0 Z d τ (yN K fun υ => (¬ (υ.i 0 17) = 0 → B_X23_readText_4 Z (d + 1) υ K) ∧ ((υ.i 0 17) = 0 → K (.inl none) υ)))
    (h23 : tyS t n p = 23 → ∀ τ, RX t n env B τ (nxS t n p) E m lst cap u → RF 5 0 σ τ lst cap lst cap (fun _ => False) → B_X23_layer_0 Z d τ (yN K fun υ => (¬ (υ.i 0 17) = 0 → B_X23_readText_4 Z (d + 1) υ K) ∧ ((υ.i 0 17) = 0 → K (.inl none) υ)))
    (h24 : tyS t n p = 24 → ∀ τ, RX t n env B τ (nxS t n p) E m lst cap u → RF 5 0 σ τ lst cap lst cap (fun _ => False) → B_X23_method_0 Z d τ (yN K fun υ => (¬ (υ.i 0 17) = 0 → B_X23_readText_4 Z (d + 1) υ K) ∧ ((υ.i 0 17) = 0 → K (.inl none) υ)))
    (hno : tyS t n p ≠ 20 → tyS t n p ≠ 22 → tyS t n p ≠ 23 → tyS t n p ≠ 24 → ∀ τ a, WR n 5 0 σ lst m cap τ a p → K (.inr ("DispatchHouseModel$Wrong", a)) τ) : B_X23_readText_4 Z (d + 1) σ K := by
  obtain ⟨b1, b2, b3, b4, b5⟩ := S.bd
  refine S_X23_readText_4 S.fx (rx_skip (y := 20) (by decide) hZ (by omega) S (fun y τ S1 G1 => ⟨fun z => absurd z (by decide), fun _ => h20 y τ (S1.wk (by omega) b5) G1⟩) (fun y0 => ⟨fun _ => ?_, fun z => absurd rfl z⟩))
  refine rx_skip (y := 22) (by decide) hZ (by omega) S (fun y τ S1 G1 => ⟨fun z => absurd z (by decide), fun _ => h22 y τ (S1.wk (by omega) b5) G1⟩) (fun y2 => ⟨fun _ => ?_, fun z => absurd rfl z⟩)
  refine rx_skip (y := 23) (by decide) hZ (by omega) S (fun y τ S1 G1 => ⟨fun z => absurd z (by decide), fun _ => h23 y τ (S1.wk (by omega) b5) G1⟩) (fun y3 => ⟨fun _ => ?_, fun z => absurd rfl z⟩)
  refine rx_skip (y := 24) (by decide) hZ (by omega) S (fun y τ S1 G1 => ⟨fun z => absurd z (by decide), fun _ => h24 y τ (S1.wk (by omega) b5) G1⟩) (fun y4 => ⟨fun _ => ?_, fun z => absurd rfl z⟩)
  obtain ⟨d, rfl⟩ : ∃ e, d = e + 2 := ⟨d - 2, by omega⟩
  exact rf_no hZ (by omega) S.fx fun υ a f1 f2 => ⟨_, wrg_aT f2, hno y0 y2 y3 y4 υ a (S.wr f1 f2)⟩
/-- where a text stands -/
def TxS (t : Nat → Int32) (n : Nat) (B1 : Int32) (σ0 : Sg) (lst0 : List Nat) (cap0 i0 k0 c0 l0 m0 u : Nat) (τ : Sg) (p : Nat) (E : Evs) (ks : List Knd) (cs : List Cal) (ls : List (List Int32)) (mn m : Nat) (lst : List Nat) (cap : Nat) : Prop :=
  ∃ w x r, RX t n (enW ks cs ls w) (B1, x, r) τ p E m lst cap u ∧ W3 ks cs ls τ ∧ (τ.i 0 6 = Int32.ofNat mn ∧ mn ≤ 120) ∧ TF k0 c0 l0 m0 σ0 τ lst0 cap0 lst cap (fun i => i0 ≤ i) ∧ (k0 ≤ ks.length ∧ c0 ≤ cs.length ∧ l0 ≤ ls.length ∧ m0 ≤ mn ∧ i0 ≤ m)
theorem W3.mf {lst' : List Nat} {cap' : Nat} {W : Nat → Prop} (h : W3 ks cs ls σ) (S : RX t n env B σ p es m lst cap u) (G : MF 5 M σ τ lst cap lst' cap' W) (hM : MtP M) : W3 ks cs ls τ := by
  have hk := h.1.2.1
  have hc := h.2.1.2.1
  have hl := h.2.2.2.1
  have hr := hM.rg
  have hs := sh_ge S.fx
  refine h.keep (fun a ha => (G.2.1 a (by omega) (by omega) (by omega) (by omega) (by omega) (by omega) (fun i hi => ?_)).1) (G.2.2.1 4 (by decide) (by decide) (by decide)) (G.2.2.1 5 (by decide) (by decide) (by decide)) (G.2.2.1 7 (by decide) (by decide) (by decide))
  have := nd_ge S.fx (S.ls.2.2.2.1 a (List.mem_of_getElem? hi))
  omega
/-- a declaration, whatever was broken: where the text then stands -/
theorem tx_any (hZ : ZK Z) (hd : 71 ≤ d) (hb : ∀ k, by8 (t k)) (hu : u + 2 ≤ 23000) (T : TxS t n B1 σ0 lst0 cap0 i0 k0 c0 l0 m0 u σ p E ks cs ls mn m lst cap)
    (hk : tyS t n p = 20 → ∀ p' es x, pKi t n (enW ks cs ls (-1)) ks.length (rwW ks) (nxS t n p) = .inr (p', es, x) → ∀ υ, TxS t n B1 σ0 lst0 cap0 i0 k0 c0 l0 m0 u υ p' (E ++ es) (adO ks x) cs ls mn m lst cap → TF ks.length cs.length ls.length mn σ υ lst cap lst cap (fun _ => False) → (¬ (υ.i 0 17) = 0 → B_X23_readText_4 Z (d + 1) υ K) ∧ ((υ.i 0 17) = 0 → K (.inl none) υ))
    (hc : tyS t n p = 22 → ∀ p' es x, pCl t n (enW ks cs ls (-1)) cs.length (nxS t n p) = .inr (p', es, x) → ∀ υ, TxS t n B1 σ0 lst0 cap0 i0 k0 c0 l0 m0 u υ p' (E ++ es) ks (adO cs x) ls mn m lst cap → TF ks.length cs.length ls.length mn σ υ lst cap lst cap (fun _ => False) → (¬ (υ.i 0 17) = 0 → B_X23_readText_4 Z (d + 1) υ K) ∧ ((υ.i 0 17) = 0 → K (.inl none) υ))
    (hl : tyS t n p = 23 → ∀ p' es x, pLy t n (enW ks cs ls (-1)) ls.length (nxS t n p) = .inr (p', es, x) → ∀ υ, TxS t n B1 σ0 lst0 cap0 i0 k0 c0 l0 m0 u υ p' (E ++ es) ks cs (adO ls x) mn m lst cap → TF ks.length cs.length ls.length mn σ υ lst cap lst cap (fun _ => False) → (¬ (υ.i 0 17) = 0 → B_X23_readText_4 Z (d + 1) υ K) ∧ ((υ.i 0 17) = 0 → K (.inl none) υ))
    (hm : tyS t n p = 24 → ∀ p' es D, pMt t n (enW ks cs ls (-1)) mn (nxS t n p) = .inr (p', es, D) → ∀ υ tw m' lst' cap' M, M = (if mn < 120 then 2497 + 4 * (mn + 1) else 50) → twE tw es (nxS t n p) (thX υ M mn (plO (enW ks cs ls (-1)) ((enW ks cs ls (-1)).2.1 (nmS t n (nxS t n p))))) → TxS t n B1 σ0 lst0 cap0 i0 k0 c0 l0 m0 u υ p' (E ++ es ++ tw) ks cs ls (if mn < 120 then mn + 1 else mn) m' lst' cap' → TF ks.length cs.length ls.length mn σ υ lst cap lst' cap' (fun i => m ≤ i) → m ≤ m' → MtR υ M lst' m m' D (mn + 1) (plO (enW ks cs ls (-1)) ((enW ks cs ls (-1)).2.1 (nmS t n (nxS t n p)))) → (¬ (υ.i 0 17) = 0 → B_X23_readText_4 Z (d + 1) υ K) ∧ ((υ.i 0 17) = 0 → K (.inl none) υ))
    (h0 : ∀ q, (∀ W, psR (pDe t n W p) = .inl q) → ∀ υ a, WT n k0 c0 l0 m0 σ0 lst0 i0 cap0 υ a q → K (.inr ("DispatchHouseModel$Wrong", a)) υ) : B_X23_readText_4 Z (d + 1) σ K := by
  obtain ⟨w, x, r, S, H, ⟨e6, h120⟩, G, g1, g2, g3, g4, g5⟩ := T
  have ewi : enW ks cs ls w = wiE (enW ks cs ls (-1)) w := rfl
  have dw : ∀ {τ : Sg}, RF 5 0 σ τ lst cap lst cap (fun _ => False) → TF k0 c0 l0 m0 σ0 τ lst0 cap0 lst cap (fun i => i0 ≤ i) := fun {τ} G1 => G.tr G1.tf (fun _ z => z.elim) (Nat.le_refl _) (Nat.le_refl _) (Nat.le_refl _) (Nat.le_refl m0)
  obtain ⟨d, rfl⟩ : ∃ e, d = e + 1 := ⟨d - 1, by omega⟩
  refine tx_4 hZ (by omega) S (fun y τ S1 G1 => ?_) (fun y τ S1 G1 => ?_) (fun y τ S1 G1 => ?_) (fun y τ S1 G1 => ?_) (fun y0 y2 y3 y4 τ a wr => ?_)
  · have H1 := H.rf S G1
    refine rs_kindD (m0 := mn) hZ (by omega) hb S1 H1 (fun p' es x hp υ D G2 e62 => ?_) (fun q hp υ a wt => ?_)
    · rw [ewi, ki_wi] at hp
      have e6' : υ.i 0 6 = Int32.ofNat mn := e62.trans ((G1.2.2.1 6 (by decide)).trans e6)
      refine hk y p' es x hp υ ⟨w, _, r, D.1, D.2.1, ⟨e6', h120⟩, (dw G1).tr G2 (fun _ z => z.elim) g1 g2 g3 g4, ?_, g2, g3, g4, g5⟩ (G1.tf.tr G2 (fun _ z => z) (Nat.le_refl _) (Nat.le_refl _) (Nat.le_refl _) (Nat.le_refl _))
      cases x with
      | none => exact g1
      | some x =>
        show k0 ≤ (ks ++ [x]).length
        rw [List.length_append]
        omega
    · refine h0 q (fun W => ?_) υ a (wt.tr (dw G1) (fun _ z => z) g5 g1 g2 g3 g4)
      rw [de_20 y W (enW ks cs ls w) ks.length (rwW ks), hp]
      rfl
  · have H1 := H.rf S G1
    refine rs_callD (m0 := mn) hZ (by omega) hb S1 H1 (fun p' es x hp υ D G2 e62 => ?_) (fun q hp υ a wt => ?_)
    · rw [ewi, cl_wi] at hp
      have e6' : υ.i 0 6 = Int32.ofNat mn := e62.trans ((G1.2.2.1 6 (by decide)).trans e6)
      refine hc y p' es x hp υ ⟨w, _, r, D.1, D.2.1, ⟨e6', h120⟩, (dw G1).tr G2 (fun _ z => z.elim) g1 g2 g3 g4, g1, ?_, g3, g4, g5⟩ (G1.tf.tr G2 (fun _ z => z) (Nat.le_refl _) (Nat.le_refl _) (Nat.le_refl _) (Nat.le_refl _))
      cases x with
      | none => exact g2
      | some x =>
        show c0 ≤ (cs ++ [x]).length
        rw [List.length_append]
        omega
    · refine h0 q (fun W => ?_) υ a (wt.tr (dw G1) (fun _ z => z) g5 g1 g2 g3 g4)
      rw [de_22 y W (enW ks cs ls w) cs.length, hp]
      rfl
  · have H1 := H.rf S G1
    refine rs_layerD (m0 := mn) hZ (by omega) hb S1 H1 (fun p' es x hp υ D G2 e62 => ?_) (fun q hp υ a wt => ?_)
    · rw [ewi, ly_wi] at hp
      have e6' : υ.i 0 6 = Int32.ofNat mn := e62.trans ((G1.2.2.1 6 (by decide)).trans e6)
      refine hl y p' es x hp υ ⟨w, _, r, D.1, D.2.1, ⟨e6', h120⟩, (dw G1).tr G2 (fun _ z => z.elim) g1 g2 g3 g4, g1, g2, ?_, g4, g5⟩ (G1.tf.tr G2 (fun _ z => z) (Nat.le_refl _) (Nat.le_refl _) (Nat.le_refl _) (Nat.le_refl _))
      cases x with
      | none => exact g3
      | some x =>
        show l0 ≤ (ls ++ [x]).length
        rw [List.length_append]
        omega
    · refine h0 q (fun W => ?_) υ a (wt.tr (dw G1) (fun _ z => z) g5 g1 g2 g3 g4)
      rw [de_23 y W (enW ks cs ls w) ls.length, hp]
      rfl
  · have H1 := H.rf S G1
    have e6' : τ.i 0 6 = Int32.ofNat mn := (G1.2.2.1 6 (by decide)).trans e6
    obtain ⟨M, hM⟩ : ∃ M, M = if mn < 120 then 2497 + 4 * (mn + 1) else 50 := ⟨_, rfl⟩
    have hMt : MtP M := by
      rw [hM]
      split
      · exact Or.inr ⟨mn + 1, by omega, by omega, rfl⟩
      · exact Or.inl rfl
    have hM2 : M = 50 ∨ 2501 + 4 * mn ≤ M := by
      rw [hM]
      split
      · omega
      · exact Or.inl rfl
    refine rs_method hZ (by omega) h120 hM S1 hu e6' (fun p' es D hp υ tw x' c' vs' m' lst' cap' htw S2 G2 hm' hpp hD e62 => ?_) (fun q hp υ a wm => ?_)
    · rw [ewi, mt_wi] at hp
      have ep : plO (enW ks cs ls w) ((enW ks cs ls w).2.1 (nmS t n (nxS t n p))) = plO (enW ks cs ls (-1)) ((enW ks cs ls (-1)).2.1 (nmS t n (nxS t n p))) := by
        show plO (enW ks cs ls w) ((enW ks cs ls (-1)).2.1 (nmS t n (nxS t n p))) = _
        cases (enW ks cs ls (-1)).2.1 (nmS t n (nxS t n p)) <;> rfl
      rw [ep] at htw hD
      refine hm y p' es D hp υ tw m' lst' cap' M hM htw ⟨wiO ((enW ks cs ls w).2.1 (nmS t n (nxS t n p))), x', Rf.ptr 5, S2.rx, H1.mf S1 G2 hMt, ⟨e62, by split <;> omega⟩, (dw G1).tr (G2.tf (k0 := k0) (c0 := c0) (l0 := l0) (m0 := m0) hMt (by omega)) (fun i hi => by omega) (Nat.le_refl _) (Nat.le_refl _) (Nat.le_refl _) (Nat.le_refl m0), g1, g2, g3, by split <;> omega, by omega⟩ ((((TF.refl ks.length cs.length ls.length mn σ lst cap (fun i => m ≤ i)).tr (G1.tf (k0 := ks.length) (c0 := cs.length) (l0 := ls.length) (m0 := mn)) (fun _ z => z.elim) (Nat.le_refl _) (Nat.le_refl _) (Nat.le_refl _) (Nat.le_refl _)).tr (G2.tf (k0 := ks.length) (c0 := cs.length) (l0 := ls.length) (m0 := mn) hMt hM2) (fun _ z => z) (Nat.le_refl _) (Nat.le_refl _) (Nat.le_refl _) (Nat.le_refl _))) hm' hD
    · refine h0 q (fun W => ?_) υ a ((wm.wt (k0 := k0) (c0 := c0) (l0 := l0) (m0 := m0) hMt (by omega)).tr (dw G1) (fun _ z => z) g5 (Nat.le_refl _) (Nat.le_refl _) (Nat.le_refl _) (Nat.le_refl _))
      rw [de_24 y W (enW ks cs ls w) mn, hp]
      rfl
  · refine h0 p (fun W => ?_) τ a ((wr.wt (k0 := k0) (c0 := c0) (l0 := l0) (m0 := m0)).tr G (fun _ z => z) g5 (Nat.le_refl _) (Nat.le_refl _) (Nat.le_refl _) (Nat.le_refl _))
    rw [de_no y0 y2 y3 y4 W]
    rfl
end TEXTD

/-! THE REFERENCE: tell and program, between calls; what stays well formed -/
section TELL4
variable {Z : zT} {d : Nat} {W : Wld} {pg : Ast} {t : Nat → Int32} {n wy ch fuel rs : Nat} {rn : Option (Rs × Es)} {res : List Nat} {q : Nat} {σ τ : Sg} {K : kS}
theorem tl_bad (h : (tlR t n W).1 ≠ -1) : (tlR t n W).2.2 = W := by
  unfold tlR at h ⊢
  split
  · rfl
  · rename_i p es W' e
    rw [e] at h
    dsimp only at h ⊢
    cases hl : lsE es with
    | none =>
      rw [hl] at h
      exact absurd rfl h
    | some w => rfl
theorem RmR.gr {sh sh' : List Sh} {L L' L7 cap cap' cap7 : Nat} (h : RmR L L7 cap cap7 q sh) (g : RmW sh sh' (L' - L) cap cap') (hl : L ≤ L') : RmR L' L7 cap' cap7 (q + 1) sh' := by
  obtain ⟨ext, e, g1, g2⟩ := g
  obtain ⟨h1, h2⟩ := h
  refine ⟨?_, ?_⟩
  · rw [e, List.length_append]
    omega
  · rw [e, szS_app]
    omega
theorem RmR.sw {L L7 cap cap7 : Nat} {sh : List Sh} (h : RmR L L7 cap cap7 q sh) : RmR L7 L cap7 cap q sh := ⟨by have := h.1; omega, by have := h.2; omega⟩
theorem rc_tell (hZ : ZK Z) (hd : 100 ≤ d) (hW : RnW W) (hq : q ≤ 520) (h : RfA W pg t n wy ch fuel rs rn res q σ) (hK : ∀ τ, RfA (tlR t n W).2.2 pg t 0 wy ch fuel (tlR t n W).2.1 rn res (q + 1) τ → τ.i 0 110 = 0 → K (.inl (some (.int (Int32.ofInt (tlR t n W).1)))) τ) : B_X23_tell_0 Z d σ K := by
  obtain ⟨m, lst, cap, m7, lst7, cap7, R, h1, h2, h3, h4, h5, h6, h7, h8, h9, h10⟩ := h
  have hn := R.tx.1.1
  refine rf_tell hZ (by omega) R (wf_s hW.1) (by omega) (fun τ m' lst' cap' R' _ hm hle rm e112 e110 kp1 kp2 => ?_)
  have rd : ∀ k, k = 79 ∨ k = 80 ∨ (81 ≤ k ∧ k ≤ 87) ∨ k = 96 ∨ k = 111 → ¬ rdK k := fun k z y => by unfold rdK at y; omega
  have key : ∀ υ : Sg, KpR σ υ → (∀ k, k ≠ 41 → τ.i 0 k = υ.i 0 k) → (∀ a, a = 2134 ∨ a = 2135 ∨ a = 2191 → τ.i a = υ.i a) → τ.l 0 = υ.l 0 → MmR (tlR t n W).2.2 wy τ → OrR (tlR t n W).2.2 τ → RfA (tlR t n W).2.2 pg t 0 wy ch fuel (tlR t n W).2.1 rn res (q + 1) τ := fun υ k e0 e1 el Mm Oo => by
    have z0 : ∀ y, y = 79 ∨ y = 80 ∨ (81 ≤ y ∧ y ≤ 87) ∨ y = 96 ∨ y = 111 → τ.i 0 y = σ.i 0 y := fun y z => (e0 y (by omega)).trans (k.2.1 y (rd y z) (by omega) (by omega) (by omega) (by omega) (by omega))
    have e2 : ∀ a, a = 2134 ∨ a = 2135 ∨ a = 2191 → τ.i a = σ.i a := fun a z => (e1 a z).trans (k.1 a (by omega) (by omega) (by omega) (by omega) (by omega)).1
    exact ⟨m', lst', cap', m7, lst7, cap7, R', ⟨(z0 83 (by omega)).trans h1.1, h1.2⟩, ⟨(z0 82 (by omega)).trans h2.1, h2.2⟩, ⟨(z0 81 (by omega)).trans h3.1, h3.2⟩, Mm, Oo, e112, h7.keep (fun y z => z0 y (by omega)) (e2 _ (by decide)) (e2 _ (by decide)) (by rw [el, k.2.2.1]), h8.keep (z0 111 (by omega)) (e2 _ (by decide)), by omega, h10.gr rm hle⟩
  refine hK τ ?_ e110
  by_cases z : (tlR t n W).1 = -1
  · obtain ⟨υ, k, g, o, mm⟩ := kp2 z
    exact key υ k (fun y hy => g.2.2.1 0 y (by omega) (by omega) (by omega) (by omega)) (fun a ha => funext fun y => g.2.2.1 a y (by omega) (by omega) (by omega) (by omega)) (g.2.2.2 0 (by decide)) (MmR.new mm) (OrR.new o)
  · have k := kp1 z
    have eW := tl_bad z
    refine key τ k (fun _ _ => rfl) (fun _ _ => rfl) rfl ?_ ?_
    · rw [eW]
      exact h4.same (k.1 2069 (by omega) (by omega) (by omega) (by omega) (by omega)).1 (k.1 2070 (by omega) (by omega) (by omega) (by omega) (by omega)).1
    · rw [eW]
      exact h5.same (k.1 1931 (by omega) (by omega) (by omega) (by omega) (by omega)).1
theorem rc_program (hZ : ZK Z) (hd : 100 ≤ d) (hq : q ≤ 520) (h : RfA W pg t n wy ch fuel rs rn res q σ) (hK : ∀ τ, RfA W (prR t n W).2.2 t 0 wy ch fuel (prR t n W).2.1 rn res (q + 1) τ → τ.i 0 110 = 0 → K (.inl (some (.int (Int32.ofInt (prR t n W).1)))) τ) : B_X23_program_0 Z d σ K := by
  obtain ⟨m, lst, cap, m7, lst7, cap7, R, h1, h2, h3, h4, h5, h6, h7, h8, h9, h10⟩ := h
  have hn := R.tx.1.1
  refine rf_program hZ (by omega) R (by omega) (fun τ m' lst' cap' R' hle rm e112 e110 k => ?_)
  have rd : ∀ k, k = 79 ∨ k = 80 ∨ (81 ≤ k ∧ k ≤ 87) ∨ k = 96 ∨ k = 111 → ¬ rdK k := fun k z y => by unfold rdK at y; omega
  have z0 : ∀ y, y = 79 ∨ y = 80 ∨ (81 ≤ y ∧ y ≤ 87) ∨ y = 96 ∨ y = 111 → τ.i 0 y = σ.i 0 y := fun y z => k.2.1 y (rd y z) (by omega) (by omega) (by omega) (by omega)
  have e2 : ∀ a, a = 2134 ∨ a = 2135 ∨ a = 2191 ∨ a = 2069 ∨ a = 2070 ∨ a = 1931 → τ.i a = σ.i a := fun a z => (k.1 a (by omega) (by omega) (by omega)).1
  exact hK τ ⟨m, lst, cap, m', lst', cap', R', ⟨(z0 83 (by omega)).trans h1.1, h1.2⟩, ⟨(z0 82 (by omega)).trans h2.1, h2.2⟩, ⟨(z0 81 (by omega)).trans h3.1, h3.2⟩, h4.same (e2 _ (by decide)) (e2 _ (by decide)), h5.same (e2 _ (by decide)), e112, h7.keep (fun y z => z0 y (by omega)) (e2 _ (by decide)) (e2 _ (by decide)) (by rw [k.2.2.1]), h8.keep (z0 111 (by omega)) (e2 _ (by decide)), by omega, (h10.sw.gr rm hle).sw⟩ e110
end TELL4
/-! what stays well formed -/
section GROW
variable {t : Nat → Int32} {n : Nat}
theorem de_ap {p p' : Nat} {es : Evs} {W W' : Wld} (h : pDe t n W p = .inr (p', es, W')) : (∃ o, W'.1 = W.1 ++ o) ∧ (∃ o, W'.2.1 = W.2.1 ++ o) ∧ (∃ o, W'.2.2.1 = W.2.2.1 ++ o) := by
  have nil : ∀ {α : Type} (l : List α), ∃ o, l = l ++ o := fun l => ⟨[], (List.append_nil _).symm⟩
  unfold pDe at h
  split at h
  · split at h
    · cases h
    · cases h
      exact ⟨adO_ap _ _, nil _, nil _⟩
  · split at h
    · split at h
      · cases h
      · cases h
        exact ⟨nil _, adO_ap _ _, nil _⟩
    · split at h
      · split at h
        · cases h
        · cases h
          exact ⟨nil _, nil _, adO_ap _ _⟩
      · split at h
        · split at h
          · cases h
          · cases h
            exact ⟨nil _, nil _, nil _⟩
        · cases h
theorem ap_tr {α : Type} {a b c : List α} (h : ∃ o, b = a ++ o) (g : ∃ o, c = b ++ o) : ∃ o, c = a ++ o := by
  obtain ⟨o, rfl⟩ := h
  obtain ⟨u, rfl⟩ := g
  exact ⟨o ++ u, by rw [List.append_assoc]⟩
theorem tx_ap : ∀ f (W W' : Wld) p p' es, pTx t n f W p = .inr (p', es, W') → (∃ o, W'.1 = W.1 ++ o) ∧ (∃ o, W'.2.1 = W.2.1 ++ o) ∧ (∃ o, W'.2.2.1 = W.2.2.1 ++ o)
  | 0, W, W', p, p', es, h => by cases h
  | f + 1, W, W', p, p', es, h => by
    rw [pTx] at h
    split at h
    · cases h
    · rename_i p2 es1 W2 hde
      split at h
      · cases h
        exact de_ap hde
      · split at h
        · cases h
        · rename_i p3 es2 W3 htx
          have e2 := (Prod.mk.inj (Prod.mk.inj (Sum.inr.inj h)).2).2
          rw [← e2]
          obtain ⟨a1, a2, a3⟩ := de_ap hde
          obtain ⟨b1, b2, b3⟩ := tx_ap f _ _ _ _ _ htx
          exact ⟨ap_tr a1 b1, ap_tr a2 b2, ap_tr a3 b3⟩
theorem mk_ap {ks ks' : List Knd} (h : ∃ o, ks' = ks ++ o) {k : Nat} (hk : k ∈ mkW ks) : k ∈ mkW ks' := by
  obtain ⟨o, rfl⟩ := h
  have hl := mkW_b hk
  have hb := (List.mem_filter.mp hk).2
  refine List.mem_filter.mpr ⟨List.mem_range.mpr (by rw [List.length_append]; omega), ?_⟩
  rw [List.getElem?_append_left hl]
  exact hb
theorem lsE_nil {es : Evs} (h : lsE es = none) : es = [] := by
  rcases List.eq_nil_or_concat es with q | ⟨r, e, q⟩
  · exact q
  · exfalso
    rw [q, List.concat_eq_append, lsE_snoc] at h
    unfold lsA at h
    split at h
    · cases h
    · split at h <;> cases h
/-- what a text leaves -/
theorem tl_ok {W : Wld} (h : (tlR t n W).1 = -1) : ∃ f p, pTx t n f W (fiS t n) = .inr (p, [], (tlR t n W).2.2) := by
  unfold tlR at h ⊢
  split at h
  · rename_i q e
    exfalso
    have h : ((q : Nat) : Int) = -1 := h
    omega
  · rename_i p es W' e
    cases hl : lsE es with
    | none =>
      refine ⟨n + 1 - fiS t n, p, ?_⟩
      rw [e, lsE_nil hl]
    | some w =>
      rw [hl] at h
      exfalso
      have h : ((w.1 : Nat) : Int) = -1 := h
      omega
theorem tl_grow (W : Wld) : (∃ o, (tlR t n W).2.2.1 = W.1 ++ o) ∧ (∃ o, (tlR t n W).2.2.2.1 = W.2.1 ++ o) ∧ (∃ o, (tlR t n W).2.2.2.2.1 = W.2.2.1 ++ o) := by
  by_cases z : (tlR t n W).1 = -1
  · obtain ⟨f, p, e⟩ := tl_ok z
    exact tx_ap _ _ _ _ _ _ e
  · rw [tl_bad z]
    exact ⟨⟨[], (List.append_nil _).symm⟩, ⟨[], (List.append_nil _).symm⟩, ⟨[], (List.append_nil _).symm⟩⟩
theorem tl_rn {W : Wld} (h : RnW W) : RnW (tlR t n W).2.2 := by
  by_cases z : (tlR t n W).1 = -1
  · obtain ⟨f, p, e⟩ := tl_ok z
    obtain ⟨h1, h2, h3, h4, h5⟩ := h
    have a := (tx_ap _ _ _ _ _ _ e).1
    exact ⟨tx_wf _ _ _ _ _ e h1, tx_nd _ _ _ _ _ e h1 h2, tx_h _ _ _ _ _ _ e h3, mk_ap a h4, mk_ap a h5⟩
  · rw [tl_bad z]
    exact h
theorem pg_grow {W W' : Wld} {pg : Ast} (h1 : ∃ o, W'.1 = W.1 ++ o) (h2 : ∃ o, W'.2.1 = W.2.1 ++ o) (h3 : ∃ o, W'.2.2.1 = W.2.2.1 ++ o) (h : PgW W pg) : PgW W' pg := by
  refine ⟨exW_mono ?_ _ _ _ h.1, h.2⟩
  obtain ⟨o1, e1⟩ := h1
  obtain ⟨o2, e2⟩ := h2
  obtain ⟨o3, e3⟩ := h3
  refine ⟨?_, ?_, ?_, fun k hk => ?_, fun k hk => ?_, rfl, fun z => absurd z (by show ¬ (0 : Int) ≤ -1; decide)⟩
  · show W.1.length ≤ W'.1.length
    rw [e1, List.length_append]
    omega
  · show W.2.1.length ≤ W'.2.1.length
    rw [e2, List.length_append]
    omega
  · show W.2.2.1.length ≤ W'.2.2.1.length
    rw [e3, List.length_append]
    omega
  · show ((W'.1[k]?).map (·.2.1)).getD false = ((W.1[k]?).map (·.2.1)).getD false
    rw [e1, List.getElem?_append_left hk]
  · show plW W'.2.1 k = plW W.2.1 k
    unfold plW
    rw [e2, List.getElem?_append_left hk]
/-- a program that was read -/
theorem pr_pg {W : Wld} (h : RnW W) (hp : (prR t n W).2.2.isNil = false) : PgW W (prR t n W).2.2 := by
  unfold prR at hp ⊢
  split
  · rename_i q e
    rw [e] at hp
    cases hp
  · rename_i p c es x e
    rw [e] at hp
    dsimp only at hp ⊢
    split
    · rename_i hy
      rw [if_pos hy] at hp
      cases hl : lsE es with
      | none =>
        rw [lsE_nil hl] at e
        dsimp only
        have hv := ev_w (W := W) h.1.2.1 (w := -1) (Or.inl rfl)
        have hx := x_ok (t := t) (n := n) hv 12 false (by omega) [] _ _ _ _ _ (by decide) e
        have hc := cn_x (t := t) (n := n) (cn_enW h.1.2.1 (w := -1) (Or.inl rfl)) 12 false _ _ _ _ _ _ e
        have := hc.2 (by omega)
        exact ⟨hx, by omega, (hl_x 12).1 _ _ _ _ _ _ _ e⟩
      | some w =>
        rw [hl] at hp
        cases hp
    · rename_i hy
      rw [if_neg hy] at hp
      cases hp
end GROW

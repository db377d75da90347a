/-! PURE: worlds that grow -/
/-- how calls may be joined -/
def JoB (W : Wld) : Prop := ∀ x ∈ W.2.1, x.2.2.1 ≤ 4 ∧ x.2.2.2 ≤ 2
/-- what every world that was told is -/
def PuW (W : Wld) : Prop := RnW W ∧ (∀ x ∈ W.2.2.2, sH x.1.2.2.2.2.2.1 ≤ 49) ∧ TrZ W.1 ∧ (∃ o, W.1 = W0.1 ++ o) ∧ JoB W
/-- W' has what W has; methods may be gone -/
def Gro (W W' : Wld) : Prop := (∃ o, W'.1 = W.1 ++ o) ∧ (∃ o, W'.2.1 = W.2.1 ++ o) ∧ W.2.2.2.length ≤ W'.2.2.2.length ∧ ∀ j, j < W.2.2.2.length → (W'.2.2.2[j]?).map (·.1) = (W.2.2.2[j]?).map (·.1)
section GROW
variable {t : Nat → Int32} {n : Nat} {W W' : Wld} {σ : Sg}
theorem PuW.rc (h : PuW W) : RcW W := ⟨h.1.1, h.2.1, h.1.2.2.2⟩
theorem PuW.tr (h : PuW W) : TrW W.1 := h.2.2.1.2.2
theorem jnO_le {y j : Nat} (h : jnO y = some j) : j ≤ 4 := by
  unfold jnO at h
  split at h
  · cases h
    decide
  · split at h
    · cases h
      decide
    · split at h
      · cases h
        decide
      · split at h
        · cases h
          decide
        · split at h
          · cases h
            decide
          · cases h
theorem wyO_le {y j : Nat} (h : wyO y = some j) : j ≤ 2 := by
  unfold wyO at h
  split at h
  · cases h
    decide
  · split at h
    · cases h
      decide
    · split at h
      · cases h
        decide
      · cases h
theorem cl_jo {env : Env} {cn p p' : Nat} {es : Evs} {x : Cal} (h : pCl t n env cn p = .inr (p', es, some x)) : x.2.2.1 ≤ 4 ∧ x.2.2.2 ≤ 2 := by
  unfold pCl at h
  split at h
  · split at h
    · split at h
      · split at h
        · split at h
          · cases h
          · rename_i j hj
            split at h
            · cases h
            · rename_i w hw
              split at h
              · have h := (Prod.mk.inj (Prod.mk.inj (Sum.inr.inj h)).2).2
                split at h
                · cases h
                · have h := Option.some.inj h
                  rw [← h]
                  exact ⟨jnO_le hj, wyO_le hw⟩
              · cases h
        · cases h
      · cases h
    · cases h
  · cases h
theorem de_jo {p p' : Nat} {es : Evs} (h : pDe t n W p = .inr (p', es, W')) (hj : JoB W) : JoB W' := by
  unfold pDe at h
  split at h
  · split at h
    · cases h
    · cases h
      exact hj
  · split at h
    · split at h
      · cases h
      · rename_i p2 es2 o hc
        cases h
        intro x hx
        have hx : x ∈ adO W.2.1 o := hx
        cases o with
        | none => exact hj x hx
        | some y =>
          rcases List.mem_append.mp hx with q | q
          · exact hj x q
          · rw [List.mem_singleton] at q
            rw [q]
            exact cl_jo hc
    · split at h
      · split at h
        · cases h
        · cases h
          exact hj
      · split at h
        · split at h
          · cases h
          · cases h
            exact hj
        · cases h
theorem tx_jo : ∀ f (W W' : Wld) p p' es, pTx t n f W p = .inr (p', es, W') → JoB W → JoB W'
  | 0, W, W', p, p', es, h, _ => by cases h
  | f + 1, W, W', p, p', es, h, hj => by
    rw [pTx] at h
    split at h
    · cases h
    · rename_i p2 es1 W2 hde
      split at h
      · cases h
        exact de_jo hde hj
      · split at h
        · cases h
        · rename_i p3 es2 W3 htx
          have e2 := (Prod.mk.inj (Prod.mk.inj (Sum.inr.inj h)).2).2
          rw [← e2]
          exact tx_jo f _ _ _ _ _ htx (de_jo hde hj)
theorem de_am {p p' : Nat} {es : Evs} (h : pDe t n W p = .inr (p', es, W')) : ∃ o, W'.2.2.2 = W.2.2.2 ++ o := by
  have nil : ∀ {α : Type} (l : List α), ∃ o, l = l ++ o := fun l => ⟨[], (List.append_nil _).symm⟩
  unfold pDe at h
  split at h
  · split at h
    · cases h
    · cases h
      exact nil _
  · split at h
    · split at h
      · cases h
      · cases h
        exact nil _
    · split at h
      · split at h
        · cases h
        · cases h
          exact nil _
      · split at h
        · split at h
          · cases h
          · rename_i p2 es2 D hm
            have e2 := (Prod.mk.inj (Prod.mk.inj (Sum.inr.inj h)).2).2
            rw [← e2]
            show ∃ o, (if W.2.2.2.length < 120 then W.2.2.2 ++ [(D, false)] else W.2.2.2) = W.2.2.2 ++ o
            split
            · exact ⟨_, rfl⟩
            · exact nil _
        · cases h
theorem tx_am : ∀ f (W W' : Wld) p p' es, pTx t n f W p = .inr (p', es, W') → ∃ o, W'.2.2.2 = W.2.2.2 ++ o
  | 0, W, W', p, p', es, h => by cases h
  | f + 1, W, W', p, p', es, h => by
    rw [pTx] at h
    split at h
    · cases h
    · rename_i p2 es1 W2 hde
      split at h
      · cases h
        exact de_am hde
      · split at h
        · cases h
        · rename_i p3 es2 W3 htx
          have e2 := (Prod.mk.inj (Prod.mk.inj (Sum.inr.inj h)).2).2
          rw [← e2]
          exact ap_tr (de_am hde) (tx_am f _ _ _ _ _ htx)
theorem PuW.tl (h : PuW W) : PuW (tlR t n W).2.2 := by
  by_cases z : (tlR t n W).1 = -1
  · obtain ⟨f, p, e⟩ := tl_ok z
    exact ⟨tl_rn h.1, tx_k _ _ _ _ _ _ e h.2.1, TrZ.tx _ _ _ _ _ _ h.2.2.1 e, ap_tr h.2.2.2.1 (tx_ap _ _ _ _ _ _ e).1, tx_jo _ _ _ _ _ _ e h.2.2.2.2⟩
  · rw [tl_bad z]
    exact h
theorem PuW.dr (h : PuW W) (m : Nat) : PuW (drW W m) := ⟨dr_rn h.1 m, fun x hx => by
    obtain ⟨y, y1, y2⟩ := drM_mem hx
    rw [← y2]
    exact h.2.1 y y1, h.2.2.1, h.2.2.2.1, h.2.2.2.2⟩
theorem Gro.refl (W : Wld) : Gro W W := ⟨⟨[], (List.append_nil _).symm⟩, ⟨[], (List.append_nil _).symm⟩, Nat.le_refl _, fun _ _ => rfl⟩
theorem Gro.tl (W : Wld) : Gro W (tlR t n W).2.2 := by
  by_cases z : (tlR t n W).1 = -1
  · obtain ⟨f, p, e⟩ := tl_ok z
    obtain ⟨a1, a2, -⟩ := tx_ap _ _ _ _ _ _ e
    obtain ⟨o, ho⟩ := tx_am _ _ _ _ _ _ e
    refine ⟨a1, a2, by rw [ho, List.length_append]; omega, fun j hj => ?_⟩
    rw [ho, List.getElem?_append_left hj]
  · rw [tl_bad z]
    exact Gro.refl W
theorem Gro.dr (W : Wld) (m : Nat) : Gro W (drW W m) := by
  refine ⟨⟨[], (List.append_nil _).symm⟩, ⟨[], (List.append_nil _).symm⟩, ?_, fun j hj => ?_⟩
  · show _ ≤ (W.2.2.2.modify (m - 1) fun x => (x.1, true)).length
    rw [List.length_modify]
    exact Nat.le_refl _
  · show ((W.2.2.2.modify (m - 1) fun x => (x.1, true))[j]?).map (·.1) = _
    rw [List.getElem?_modify]
    split
    · cases W.2.2.2[j]? <;> rfl
    · cases W.2.2.2[j]? <;> rfl
theorem bl_gr (g : Gro W W') {a b : Nat} (ha : a < W.1.length) : blW W'.1 a b = blW W.1 a b := by
  obtain ⟨⟨o, e⟩, -⟩ := g
  unfold blW rwW
  rw [e, List.getElem?_append_left ha]
theorem it_gr (g : Gro W W') {k : Nat → Nat} {kn pl : Nat} {x : Ast} (hx : x = .nil ∨ tsW kn pl x) (hk : ∀ p, p < pl → k p < W.1.length) : ∀ l ∈ lvT x, itB (blW W'.1) k l = itB (blW W.1) k l := by
  intro l hl
  rcases hx with rfl | hx
  · cases hl
  · rcases lv_c x hx l hl with ⟨v, w, pb, mo, rfl, -⟩ | ⟨v, w, rfl, -, h2⟩
    · rfl
    · show (decide (9 = 9) && blW W'.1 (k w.toNat) v.toNat) = (decide (9 = 9) && blW W.1 (k w.toNat) v.toNat)
      rw [bl_gr g (hk _ (by omega))]
theorem itF_cg {bl bl' : Nat → Nat → Bool} {k : Nat → Nat} {ls : List Ast} (h : ∀ l ∈ ls, itB bl k l = itB bl' k l) : ∀ i, itF bl k ls i = itF bl' k ls i
  | 0 => rfl
  | i + 1 => by
    rw [itF, itF, itF_cg h i]
    cases e : ls[i]? with
    | none => rfl
    | some l =>
      show _ + (if ((some l).map (itB bl k)).getD false = true then _ else _) = _ + (if ((some l).map (itB bl' k)).getD false = true then _ else _)
      rw [show (some l).map (itB bl k) = (some l).map (itB bl' k) by rw [Option.map_some, Option.map_some, h l (List.mem_of_getElem? e)]]
/-- what was settled is settled -/
theorem NcS.gr (h : NcS W σ) (g : Gro W W') (wf : WfW W) : NcS W' σ := by
  obtain ⟨e0, ng, se⟩ := h
  refine ⟨e0, ng, fun m n hm hn => ?_⟩
  rcases se m n hm hn with q | ⟨⟨m1, m2⟩, ⟨n1, n2⟩, hmc, k, hk, e⟩
  · exact Or.inl q
  · right
    have at' : ∀ m, 1 ≤ m → m ≤ W.2.2.2.length → ∃ x y : Mtd × Bool, W.2.2.2[m - 1]? = some x ∧ W'.2.2.2[m - 1]? = some y ∧ y.1 = x.1 ∧ WfM W x.1 := fun m m1 m2 => by
      have ex : W.2.2.2[m - 1]? = some W.2.2.2[m - 1] := List.getElem?_eq_getElem (by omega)
      have ey : W'.2.2.2[m - 1]? = some (W'.2.2.2[m - 1]'(by have := g.2.2.1; omega)) := List.getElem?_eq_getElem _
      have := g.2.2.2 (m - 1) (by omega)
      rw [ex, ey] at this
      exact ⟨_, _, ex, ey, Option.some.inj this, wf.2.2 _ (List.getElem_mem _)⟩
    obtain ⟨x, y, x1, x2, x3, ⟨kx, w1, w2, -, -, -, -, wt, -⟩⟩ := at' m m1 m2
    obtain ⟨x', y', x1', x2', x3', ⟨kx', w1', w2', -, -, -, -, wt', -⟩⟩ := at' n n1 n2
    have em : mcW W'.2.2.2 m = mcW W.2.2.2 m ∧ spM W'.2.2.2 m = spM W.2.2.2 m ∧ tsM W'.2.2.2 m = tsM W.2.2.2 m := by
      unfold mcW spM tsM
      rw [x1, x2]
      show y.1.1.toNat = x.1.1.toNat ∧ y.1.2.2.2.1 = x.1.2.2.2.1 ∧ y.1.2.2.2.2.1 = x.1.2.2.2.2.1
      rw [x3]
      exact ⟨rfl, rfl, rfl⟩
    have en : mcW W'.2.2.2 n = mcW W.2.2.2 n ∧ spM W'.2.2.2 n = spM W.2.2.2 n ∧ tsM W'.2.2.2 n = tsM W.2.2.2 n := by
      unfold mcW spM tsM
      rw [x1', x2']
      show y'.1.1.toNat = x'.1.1.toNat ∧ y'.1.2.2.2.1 = x'.1.2.2.2.1 ∧ y'.1.2.2.2.2.1 = x'.1.2.2.2.2.1
      rw [x3']
      exact ⟨rfl, rfl, rfl⟩
    have cm : mcW W.2.2.2 m = kx ∧ tsM W.2.2.2 m = x.1.2.2.2.2.1 := by
      unfold mcW tsM
      rw [x1]
      show x.1.1.toNat = kx ∧ _ = _
      rw [w1]
      exact ⟨rfl, rfl⟩
    have cn : mcW W.2.2.2 n = kx' ∧ tsM W.2.2.2 n = x'.1.2.2.2.2.1 := by
      unfold mcW tsM
      rw [x1']
      show x'.1.1.toNat = kx' ∧ _ = _
      rw [w1']
      exact ⟨rfl, rfl⟩
    have pe : ∀ c, c < W.2.1.length → plW W'.2.1 c = plW W.2.1 c := fun c hc => by
      obtain ⟨-, ⟨o, e⟩, -⟩ := g
      unfold plW
      rw [e, List.getElem?_append_left hc]
    have hk' : ∀ p, p < plW W.2.1 kx → k p < W.1.length := by
      rw [cm.1] at hk
      exact hk
    have ekk : kx' = kx := by rw [← cn.1, ← hmc, cm.1]
    rw [ekk] at wt'
    have i1 := it_gr g wt hk'
    have i2 := it_gr g wt' hk'
    refine ⟨⟨m1, by have := g.2.2.1; omega⟩, ⟨n1, by have := g.2.2.1; omega⟩, by rw [em.1, en.1]; exact hmc, k, ?_, ?_⟩
    · rw [em.1, cm.1, pe kx w2]
      intro p hp
      have := hk' p hp
      obtain ⟨⟨o, e⟩, -⟩ := g
      rw [e, List.length_append]
      omega
    · have ky : kyW W' m n k = kyW W m n k := by
        unfold kyW itM
        rw [em.2.2, en.2.2, cm.2, cn.2, itF_cg i1, itF_cg i2]
      have ak : akN W' m n k = akN W m n k := by
        unfold akN
        rw [em.1, em.2.1, em.2.2, en.2.1, en.2.2, cm.1, pe kx w2]
        refine ak_cgk (fun v => ?_) (fun v => ?_)
        · show tkM _ _ _ _ (tsM W.2.2.2 m) v = tkM _ _ _ _ (tsM W.2.2.2 m) v
          rw [cm.2]
          exact tk_cgk wt i1 v
        · show tkM _ _ _ _ (tsM W.2.2.2 n) v = tkM _ _ _ _ (tsM W.2.2.2 n) v
          rw [cn.2]
          exact tk_cgk wt' i2 v
      rw [ky, ak]
      exact e
/-- a program that was read -/
theorem pr_k {W : Wld} : sH (prR t n W).2.2 ≤ 49 := by
  unfold prR
  split
  · exact Nat.zero_le _
  · rename_i p' c es x e
    split
    · split
      · exact (hk_x 12).1 _ _ _ _ _ _ _ e
      · exact Nat.zero_le _
    · exact Nat.zero_le _
end GROW
theorem PuW.w0 : PuW W0 := by
  refine ⟨⟨⟨by decide, fun x hx => (by cases hx), fun x hx => (by cases hx)⟩, fun x hx => (by cases hx), fun x hx => (by cases hx), ?_, ?_⟩, fun x hx => (by cases hx), TrZ.w0, ⟨[], (List.append_nil _).symm⟩, fun x hx => (by cases hx)⟩
  · exact List.mem_filter.mpr ⟨List.mem_range.mpr (by decide), rfl⟩
  · exact List.mem_filter.mpr ⟨List.mem_range.mpr (by decide), rfl⟩

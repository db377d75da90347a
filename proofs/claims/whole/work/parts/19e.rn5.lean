section RN5
variable {f : Nat → Nat}
theorem ab_cp_rn {h0 h h1 : List ab_E} (he : ab_emb f h0 h) {st st' : List Value} (hs : ab_cp h0 st = some (st', h1)) : ∃ h', ab_cp h (st.map (ab_rn f)) = some (st'.map (ab_rn f), h') ∧ ab_sim f h0 h h1 h' := by
  unfold ab_cp at hs
  split at hs
  · split at hs
    · cases hs
    · rename_i hneg
      have hneg2 : ∀ r : List Value, ∀ P Q S : Prop, ¬ (P ∨ Q ∨ S ∨ 8 < ab_cat r) → ¬ (P ∨ Q ∨ S ∨ 8 < ab_cat (r.map (ab_rn f))) := fun r P Q S z => by
        rw [ab_cat_rn]
        exact z
      split at hs
      · rename_i q0 g0
        obtain ⟨q, g1, g2⟩ := Option.bind_eq_some_iff.mp hs
        split at g2
        · rename_i hq
          cases g2
          refine ⟨_, ?_, ab_sim.set he (ab_arI_eq g1) (ab_lay_len _ _ _ _ _ _)⟩
          simp only [ab_cp, List.map_cons, ab_rn, if_neg (hneg2 _ _ _ _ hneg), ab_arI_rn he g0, ab_arI_rn he g1, Option.bind_some, if_pos hq]
          rfl
        · cases g2
      · rename_i n0
        split at hs
        · rename_i q0 g0
          obtain ⟨q, g1, g2⟩ := Option.bind_eq_some_iff.mp hs
          split at g2
          · rename_i hq
            cases g2
            refine ⟨_, ?_, ab_sim.set he (ab_arL_eq g1) (ab_lay_len _ _ _ _ _ _)⟩
            have e0 : ∀ a, h0[a]? = some (.inr (.inl (1, .inr (.inl q0)))) → ab_arI h (f a) 0 = none := fun a z => by
              unfold ab_arI
              rw [he.1 _ _ z]
              rfl
            simp only [ab_cp, List.map_cons, ab_rn, if_neg (hneg2 _ _ _ _ hneg), e0 _ (ab_arL_eq g0), ab_arL_rn he g0, ab_arL_rn he g1, Option.bind_some, if_pos hq]
            rfl
          · cases g2
        · obtain ⟨q0, g0, g9⟩ := Option.bind_eq_some_iff.mp hs
          obtain ⟨q, g1, g2⟩ := Option.bind_eq_some_iff.mp g9
          split at g2
          · rename_i hq
            cases g2
            refine ⟨_, ?_, ab_sim.set he (ab_arI_eq g1) (ab_lay_len _ _ _ _ _ _)⟩
            have e0 := ab_arI_rn he g0
            have e1 : ∀ a, h0[a]? = some (.inr (.inl (2, .inl q0))) → ab_arL h (f a) = none := fun a z => by
              unfold ab_arL
              rw [he.1 _ _ z]
              rfl
            simp only [ab_cp, List.map_cons, ab_rn, if_neg (hneg2 _ _ _ _ hneg), ab_arI_no e0 (show (0 : Nat) ≠ 2 by decide), e1 _ (ab_arI_eq g0), e0, ab_arI_rn he g1, Option.bind_some, if_pos hq]
            rfl
          · cases g2
  · cases hs
theorem ab_mI_rn {st r : List Value} {x y : Int32} (h : ab_mI st = some (x, y, r)) : ab_mI (st.map (ab_rn f)) = some (x, y, r.map (ab_rn f)) := by
  obtain ⟨rfl, hc⟩ := ab_mI_eq h
  exact if_pos (by rw [ab_cat_rn]; exact hc)
theorem ab_mJ_rn {st r : List Value} {x y : Int64} (h : ab_mJ st = some (x, y, r)) : ab_mJ (st.map (ab_rn f)) = some (x, y, r.map (ab_rn f)) := by
  obtain ⟨rfl, hc⟩ := ab_mJ_eq h
  exact if_pos (by rw [ab_cat_rn]; exact hc)
theorem ab_cpy_c {G : ab_G} {o : Nat} {h : List ab_E} {i : Instr} {k : Nat} {st : List Value} {r : List Value × List ab_E} (hs : ab_cpy G o h i k st = some r) : ∃ ix, (i = .invokestatic ix ∨ i = .invokevirtual ix) ∧ ∃ q, ab_gT G o ix = some q ∧ (q.1 = 5 ∨ 7 ≤ q.1) := by
  unfold ab_cpy at hs
  split at hs
  · refine ⟨_, Or.inl rfl, ?_⟩
    split at hs
    · rename_i g
      exact ⟨_, g, Or.inl rfl⟩
    · rename_i g
      exact ⟨_, g, Or.inr (by show 7 ≤ 7; decide)⟩
    · rename_i g
      exact ⟨_, g, Or.inr (by show 7 ≤ 8; decide)⟩
    · rename_i g
      exact ⟨_, g, Or.inr (by show 7 ≤ 9; decide)⟩
    · cases hs
  · refine ⟨_, Or.inr rfl, ?_⟩
    split at hs
    · rename_i g
      exact ⟨_, g, Or.inr (by show 7 ≤ 10; decide)⟩
    · cases hs
  · cases hs
theorem ab_okE_rn {X : ab_X} {h0 h : List ab_E} (he : ab_emb f h0 h) {u : Nat} {x : Option Nat} (q : ab_okE X h0 u x = true) : ab_okE X h u (x.map f) = true := by
  cases x with
  | none => rfl
  | some v =>
    unfold ab_okE at q
    dsimp only at q
    split at q
    · rename_i ci fs hv
      unfold ab_okE
      show (match h[f v]? with
        | some (.inr (.inr (ci, _))) => ab_xF X ci u
        | _ => false) = true
      rw [he.1 _ _ hv]
      exact q
    · cases q
theorem ab_lay_map {l0 l : List (Option Nat)} {sp dp n : Nat} : (ab_lay l0 l none sp dp n).map (Option.map f) = ab_lay (l0.map (Option.map f)) (l.map (Option.map f)) none sp dp n := by
  unfold ab_lay
  apply List.ext_getElem?
  intro i
  simp only [List.getElem?_map, List.getElem?_mapIdx]
  cases l[i]? with
  | none => rfl
  | some x =>
    simp only [Option.map_some]
    congr 1
    split
    · simp only [List.getD, List.getElem?_map]
      cases l0[sp + (i - dp)]? <;> rfl
    · rfl
theorem ab_cp_noR {h : List ab_E} {n dp sp : Int32} {a a0 u : Nat} {l : List (Option Nat)} {r : List Value} (g : ab_arR h a0 = some (u, l)) : ab_cp h (.int n :: .int dp :: .ref a :: .int sp :: .ref a0 :: r) = none := by
  have h3 := (ab_arR_eq g).1
  have e1 : ∀ t, ab_arI h a0 t = none := fun t => by
    unfold ab_arI
    rw [h3]
  have e2 : ab_arL h a0 = none := by
    unfold ab_arL
    rw [h3]
  simp only [ab_cp, e1, e2, Option.bind_none]
  split <;> rfl
theorem ab_cq_rn {X : ab_X} {oc : Nat → Option FieldType} {h0 h h1 : List ab_E} (he : ab_emb f h0 h) {st st' : List Value} (hs : ab_cq X oc h0 st = some (st', h1)) : ab_cp h (st.map (ab_rn f)) = none ∧ ∃ h', ab_cq X oc h (st.map (ab_rn f)) = some (st'.map (ab_rn f), h') ∧ ab_sim f h0 h h1 h' := by
  unfold ab_cq at hs
  split at hs
  · split at hs
    · cases hs
    · rename_i hneg
      have hneg2 : ∀ r : List Value, ∀ P Q S : Prop, ¬ (P ∨ Q ∨ S ∨ 8 < ab_cat r) → ¬ (P ∨ Q ∨ S ∨ 8 < ab_cat (r.map (ab_rn f))) := fun r P Q S z => by
        rw [ab_cat_rn]
        exact z
      obtain ⟨⟨u0, f0⟩, g0, g3⟩ := Option.bind_eq_some_iff.mp hs
      obtain ⟨⟨u, f1⟩, g1, g2⟩ := Option.bind_eq_some_iff.mp g3
      split at g2
      · rename_i hq
        obtain ⟨k1, k2, k3, k4, k5, k6⟩ := hq
        dsimp only at k1 k2 k3 k4 k5
        subst k3
        subst k4
        cases g2
        have r0 := ab_arR_rn he g0
        have r1 := ab_arR_rn he g1
        refine ⟨ab_cp_noR r0, _, ?_, ab_sim.set he (ab_arR_eq g1).1 (ab_lay_len _ _ _ _ _ _)⟩
        simp only [ab_cq, List.map_cons, ab_rn, if_neg (hneg2 _ _ _ _ hneg), r0, r1, Option.bind_some]
        rw [if_pos ⟨by rw [List.length_map]; exact k1, by rw [List.length_map]; exact k2, trivial, trivial, List.all_eq_true.mpr (fun x hx => by
          obtain ⟨y, hy, e⟩ := List.mem_map.mp hx
          rw [← e]
          exact ab_okE_rn he (List.all_eq_true.mp k5 _ hy)), k6⟩]
        rw [← ab_lay_map]
        rfl
      · cases g2
  · cases hs
theorem ab_cpy_rn {G : ab_G} {o : Nat} {h0 h h1 : List ab_E} (he : ab_emb f h0 h) {i : Instr} {k : Nat} {st st' : List Value} (hs : ab_cpy G o h0 i k st = some (st', h1)) : ∃ h', ab_cpy G o h i k (st.map (ab_rn f)) = some (st'.map (ab_rn f), h') ∧ ab_sim f h0 h h1 h' := by
  unfold ab_cpy at hs
  split at hs
  · split at hs
    · rename_i hgt
      split at hs
      · rename_i h9
        cases hs
        obtain ⟨h', e1, e2⟩ := ab_cp_rn he h9
        refine ⟨h', ?_, e2⟩
        simp only [ab_cpy, hgt, e1]
      · obtain ⟨e0, h', e1, e2⟩ := ab_cq_rn he hs
        refine ⟨h', ?_, e2⟩
        simp only [ab_cpy, hgt, e0, e1]
    · rename_i hgt
      obtain ⟨⟨x9, y9, r9⟩, g1, g2⟩ := Option.bind_eq_some_iff.mp hs
      cases g2
      refine ⟨h, ?_, ab_sim.rf he⟩
      simp only [ab_cpy, hgt, ab_mI_rn g1, Option.bind_some]
      rfl
    · rename_i hgt
      obtain ⟨⟨x9, y9, r9⟩, g1, g2⟩ := Option.bind_eq_some_iff.mp hs
      cases g2
      refine ⟨h, ?_, ab_sim.rf he⟩
      simp only [ab_cpy, hgt, ab_mI_rn g1, Option.bind_some]
      rfl
    · rename_i hgt
      obtain ⟨⟨x9, y9, r9⟩, g1, g2⟩ := Option.bind_eq_some_iff.mp hs
      cases g2
      refine ⟨h, ?_, ab_sim.rf he⟩
      simp only [ab_cpy, hgt, ab_mJ_rn g1, Option.bind_some]
      rfl
    · cases hs
  · split at hs
    · rename_i hgt
      split at hs
      · rename_i ha
        split at hs
        · rename_i hu
          cases hs
          refine ⟨h, ?_, ab_sim.rf he⟩
          simp only [ab_cpy, List.map_cons, ab_rn, hgt]
          rw [he.1 _ _ ha]
          exact if_pos ⟨hu.1, hu.2.1, by rw [ab_cat_rn]; exact hu.2.2⟩
        · cases hs
      · cases hs
    · cases hs
  · cases hs
theorem ab_call_c {G : ab_G} {o : Nat} {h : List ab_E} {i : Instr} {k : Nat} {st : List Value} {r : Nat × List Value × List Value} (hs : ab_call G o h i k st = some r) : ab_c i = 12 ∧ (∀ st', ab_obi G o i k st' = none) ∧ (∀ h' st', ab_cpy G o h' i k st' = none) := by
  unfold ab_call at hs
  split at hs
  · split at hs
    · rename_i hgt
      refine ⟨rfl, fun st' => rfl, fun h' st' => ?_⟩
      simp only [ab_cpy, hgt]
    · cases hs
  · rename_i ix9
    refine ⟨rfl, fun st' => rfl, fun h' st' => ?_⟩
    have hgt : ∃ q, ab_gT G o ix9 = some q ∧ (q.1 = 0 ∨ q.1 = 6) := by
      split at hs
      · rename_i g
        exact ⟨_, g, Or.inl rfl⟩
      · rename_i g
        exact ⟨_, g, Or.inr rfl⟩
      · cases hs
    obtain ⟨⟨q1, q2⟩, g, hq⟩ := hgt
    dsimp only at hq
    unfold ab_cpy
    split
    · rename_i e9 e
      cases e9
    · rename_i e9 e
      cases e9
      rw [g]
      rcases hq with hq | hq
      · subst hq
        rfl
      · subst hq
        rfl
    · rfl
  · rename_i ix9
    refine ⟨rfl, fun st' => ?_, fun h' st' => rfl⟩
    have hgt : ∃ q, ab_gT G o ix9 = some q ∧ (q.1 = 2 ∨ q.1 = 3) := by
      split at hs
      · rename_i g
        exact ⟨_, g, Or.inl rfl⟩
      · rename_i g
        exact ⟨_, g, Or.inr rfl⟩
      · cases hs
    obtain ⟨⟨q1, q2⟩, g, hq⟩ := hgt
    unfold ab_obi
    split
    · rename_i e9 e
      cases e9
      rw [g]
      rcases hq with hq | hq
      · dsimp only at hq
        subst hq
        rfl
      · dsimp only at hq
        subst hq
        rfl
    · rfl
  · cases hs
theorem ab_call_rn {G : ab_G} {o : Nat} {h0 h : List ab_E} (he : ab_emb f h0 h) {i : Instr} {k y : Nat} {st As r : List Value} (hs : ab_call G o h0 i k st = some (y, As, r)) : ab_call G o h i k (st.map (ab_rn f)) = some (y, As.map (ab_rn f), r.map (ab_rn f)) := by
  unfold ab_call at hs
  split at hs
  · split at hs
    · rename_i hgt
      split at hs
      · rename_i hc
        cases hs
        simp only [ab_call, hgt, List.length_map, ← List.map_drop, ← List.map_take, ab_cat_rn, if_pos hc, List.map_reverse]
      · cases hs
    · cases hs
  · split at hs
    · rename_i hgt
      split at hs
      · rename_i hst
        split at hs
        · rename_i ha
          split at hs
          · rename_i hc
            cases hs
            simp only [ab_call, hgt, List.length_map, ← List.map_drop, hst, List.map_cons, ab_rn, he.1 _ _ ha, ab_rnE, ← List.map_take, ab_cat_rn, if_pos hc, List.map_reverse]
          · cases hs
        · cases hs
      · cases hs
    · rename_i hgt
      split at hs
      · rename_i hst
        split at hs
        · rename_i hc
          cases hs
          simp only [ab_call, hgt, List.length_map, ← List.map_drop, hst, List.map_cons, ab_rn, ← List.map_take, ab_cat_rn, if_pos hc, List.map_reverse]
        · cases hs
      · cases hs
    · cases hs
  · split at hs
    · rename_i hgt
      split at hs
      · rename_i hst
        split at hs
        · rename_i hc
          cases hs
          simp only [ab_call, hgt, List.length_map, ← List.map_drop, hst, List.map_cons, ab_rn, ← List.map_take, ab_cat_rn, if_pos hc, List.map_reverse]
        · cases hs
      · cases hs
    · rename_i hgt
      split at hs
      · rename_i hst
        split at hs
        · rename_i hc
          cases hs
          simp only [ab_call, hgt, List.length_map, ← List.map_drop, hst, List.map_cons, ab_rn, ← List.map_take, ab_cat_rn, if_pos hc, List.map_reverse]
        · cases hs
      · cases hs
    · cases hs
  · cases hs
theorem ab_args_rn : ∀ (vs : List Value) (i : Nat), lv_args i (vs.map (ab_rn f)) = ab_rnL f (lv_args i vs)
  | [], _ => rfl
  | v :: vs, i => by
    show (i, ab_rn f v) :: lv_args (if (ab_rn f v).category = 2 then i + 2 else i + 1) (vs.map (ab_rn f)) = (i, ab_rn f v) :: ab_rnL f _
    rw [ab_rn_cat, ab_args_rn vs]
theorem ab_sl_rn : ∀ vs : List Value, (lg_sl (vs.map (ab_rn f))).length = (lg_sl vs).length
  | [] => rfl
  | v :: vs => by
    have ih := ab_sl_rn vs
    unfold lg_sl at ih ⊢
    rw [List.map_cons, List.flatMap_cons, List.flatMap_cons, List.length_append, List.length_append, ih, ab_rn_cat]
    congr 1
    split <;> rfl
def ab_rnR (f : Nat → Nat) : ab_RX → ab_RX
  | .inl v => .inl (v.map (ab_rn f))
  | .inr (E, q) => .inr (E, f q)
theorem ab_ath_rn {G : ab_G} {h0 h : List ab_E} (he : ab_emb f h0 h) {i : Instr} {k : Nat} {st : List Value} {E : String} {q : Nat} (hs : ab_ath G h0 i k st = some (E, q)) : ab_ath G h i k (st.map (ab_rn f)) = some (E, f q) ∧ i = .athrow := by
  unfold ab_ath at hs
  split at hs
  · split at hs
    · rename_i ha
      obtain ⟨z, g1, g2⟩ := Option.map_eq_some_iff.mp hs
      cases g2
      refine ⟨?_, rfl⟩
      simp only [ab_ath, List.map_cons, ab_rn, he.1 _ _ ha, ab_rnE, g1, Option.map_some]
    · cases hs
  · cases hs
theorem ab_thr_c {T : ab_GT} {M : ab_MX} {pc : Nat} {i : Instr} {k : Nat} {E : String} (hs : ab_thr T M pc i k = some E) : ∃ ix, i = .new ix := by
  unfold ab_thr at hs
  split at hs
  · exact ⟨_, rfl⟩
  · cases hs
/-- RENAMING of runs -/
theorem ab_rx_rn {G : ab_G} (hG : ab_pure G) {T : ab_GT} : ∀ (n d : Nat) (M : ab_MX) (pc : Nat) (lv : ab_L) (st : List Value) (h0 h h1 : List ab_E) (r : ab_RX), ab_rx G T n d M pc lv st h0 = some (r, h1) → ab_emb f h0 h → ∃ h', ab_rx G T n d M pc (ab_rnL f lv) (st.map (ab_rn f)) h = some (ab_rnR f r, h') ∧ ab_sim f h0 h h1 h'
  | 0, d, M, pc, lv, st, h0, h, h1, r, hs, he => by cases hs
  | n + 1, d, M, pc, lv, st, h0, h, h1, r, hs, he => by
    have hd : ∀ (d : Nat) (E : String) (q : Nat) (h2 h3 : List ab_E), (match ab_hd T (ab_mo M.1) E pc M.2 with
        | some (some hp) => ab_rx G T n d M hp lv [.ref q] h2
        | some none => some (.inr (E, q), h2)
        | none => none) = some (r, h1) → ab_emb f h2 h3 → ∃ h', (match ab_hd T (ab_mo M.1) E pc M.2 with
        | some (some hp) => ab_rx G T n d M hp (ab_rnL f lv) [.ref (f q)] h3
        | some none => some (.inr (E, f q), h3)
        | none => none) = some (ab_rnR f r, h') ∧ ab_sim f h2 h3 h1 h' := by
      intro d E q h2 h3 hq he2
      split at hq
      · rename_i hp hh
        obtain ⟨h', e1, e2⟩ := ab_rx_rn hG n d M hp lv [.ref q] h2 h3 h1 r hq he2
        exact ⟨h', e1, e2⟩
      · cases hq
        exact ⟨h3, rfl, ab_sim.rf he2⟩
      · cases hq
    unfold ab_rx at hs
    unfold ab_rx
    split at hs
    · cases hs
    · rename_i i k hdg
      split at hs
      · rename_i g1
        obtain ⟨h2, e1, e2⟩ := ab_step_rn hG he g1
        obtain ⟨h3, e3, e4⟩ := ab_rx_rn hG n d M _ _ _ _ _ _ _ hs e2.1
        rw [e1]
        exact ⟨h3, e3, e2.trans he e4⟩
      · rename_i n1
        split at hs
        · rename_i g1
          cases hs
          rw [ab_step_no (Nat.le_of_eq (ab_ret_c g1).symm), ab_ret_rn g1]
          exact ⟨h, rfl, ab_sim.rf he⟩
        · rename_i n2
          split at hs
          · cases hs
          · rename_i d'
            have nr : ∀ i' k' st', ab_c i' ≠ 11 → ab_ret (ab_mr M.1) i' k' st' = none := fun i' k' st' z => ab_no (fun r q => z (ab_ret_c q))
            split at hs
            · rename_i g1
              have cc := ab_obi_c g1
              rw [ab_step_no (by rw [cc]; decide), nr _ _ _ (by rw [cc]; decide), ab_obi_rn g1]
              exact ab_rx_rn hG n _ M _ _ _ _ _ _ _ hs he
            · rename_i n3
              split at hs
              · rename_i g1
                obtain ⟨h2, e1, e2⟩ := ab_cpy_rn he g1
                obtain ⟨h3, e3, e4⟩ := ab_rx_rn hG n _ M _ _ _ _ _ _ _ hs e2.1
                obtain ⟨ix, rfl | rfl, -⟩ := ab_cpy_c g1
                · rw [ab_step_no (by show 11 ≤ 12; decide), nr _ _ _ (by show (12 : Nat) ≠ 11; decide)]
                  dsimp only
                  rw [show ab_obi G (ab_mo M.1) (.invokestatic ix) k (st.map (ab_rn f)) = none from rfl, e1]
                  exact ⟨h3, e3, e2.trans he e4⟩
                · rw [ab_step_no (by show 11 ≤ 12; decide), nr _ _ _ (by show (12 : Nat) ≠ 11; decide)]
                  dsimp only
                  rw [show ab_obi G (ab_mo M.1) (.invokevirtual ix) k (st.map (ab_rn f)) = none from rfl, e1]
                  exact ⟨h3, e3, e2.trans he e4⟩
              · rename_i n4
                split at hs
                · rename_i y As rest g1
                  obtain ⟨c1, c2, c3⟩ := ab_call_c g1
                  rw [ab_step_no (by rw [c1]; decide), nr _ _ _ (by rw [c1]; decide), c2, c3, ab_call_rn he g1]
                  dsimp only
                  split at hs
                  · cases hs
                  · rename_i M' hM'
                    try rw [hM']
                    try dsimp only
                    split at hs
                    · rename_i hlen
                      rw [if_pos (by rw [ab_sl_rn]; exact hlen)]
                      split at hs
                      · cases hs
                      · rename_i v h2 g2
                        obtain ⟨h3, e1, e2⟩ := ab_rx_rn hG n d' M' _ _ _ _ _ _ _ g2 he
                        obtain ⟨h4, e3, e4⟩ := ab_rx_rn hG n _ M _ _ _ _ _ _ _ hs e2.1
                        rw [ab_args_rn]
                        rw [show ([] : List Value).map (ab_rn f) = [] from rfl] at e1
                        rw [e1]
                        have ev : (v.toList ++ rest).map (ab_rn f) = (v.map (ab_rn f)).toList ++ rest.map (ab_rn f) := by
                          rw [List.map_append]
                          cases v <;> rfl
                        rw [ev] at e3
                        exact ⟨h4, e3, e2.trans he e4⟩
                      · rename_i E q h2 g2
                        split at hs
                        · cases hs
                        · rename_i hsp
                          obtain ⟨h3, e1, e2⟩ := ab_rx_rn hG n d' M' _ _ _ _ _ _ _ g2 he
                          obtain ⟨h4, e3, e4⟩ := hd _ E q h2 h3 hs e2.1
                          rw [ab_args_rn]
                          rw [show ([] : List Value).map (ab_rn f) = [] from rfl] at e1
                          rw [e1]
                          exact ⟨h4, (if_neg hsp).trans e3, e2.trans he e4⟩
                    · cases hs
                · rename_i n5
                  split at hs
                  · rename_i E q g1
                    obtain ⟨e1, rfl⟩ := ab_ath_rn he g1
                    obtain ⟨h4, e3, e4⟩ := hd _ E q h0 h hs he
                    rw [ab_step_no (by decide), nr _ _ _ (by decide)]
                    dsimp only
                    refine ⟨h4, ?_, e4⟩
                    rw [show ab_obi G (ab_mo M.1) .athrow k (st.map (ab_rn f)) = none from rfl, show ab_cpy G (ab_mo M.1) h .athrow k (st.map (ab_rn f)) = none from rfl, show ab_call G (ab_mo M.1) h .athrow k (st.map (ab_rn f)) = none from rfl, e1]
                    exact e3
                  · rename_i n6
                    split at hs
                    · rename_i cls g1
                      split at hs
                      · rename_i hd8
                        cases hs
                        obtain ⟨ix, rfl⟩ := ab_thr_c g1
                        have hn : ab_gC G (ab_mo M.1) ix = none := by
                          have n9 := n1
                          unfold ab_thr at g1
                          split at g1
                          · rename_i e9
                            cases e9
                            cases hq : ab_gC G (ab_mo M.1) ix with
                            | none => rfl
                            | some q =>
                              exfalso
                              simp [ab_step, ab_s1, ab_s2, ab_s3, ab_s4, ab_s5, ab_s6, hq] at n9
                          · cases g1
                        have hst : ab_step G M.1 (.new ix) k pc (ab_rnL f lv) (st.map (ab_rn f)) h = none := by
                          have e9 : ab_s6 (ab_gC G (ab_mo M.1)) h (.new ix) k (st.map (ab_rn f)) = none := by
                            refine ab_no fun r q => ?_
                            unfold ab_s6 at q
                            split at q
                            · rename_i e9
                              cases e9
                              rw [hn] at q
                              cases q
                            · first | (rename_i e7 _; cases e7; done) | (rename_i e7 _ _; cases e7; done) | (rename_i e7; cases e7; done)
                            · cases q
                          unfold ab_step
                          rw [show ab_s1 (.new ix) k (st.map (ab_rn f)) = none from rfl, show ab_s2 (ab_mL M.1) (.new ix) k (ab_rnL f lv) (st.map (ab_rn f)) = none from rfl, show ab_s3 (.new ix) k pc (st.map (ab_rn f)) = none from rfl, show ab_s4 (ab_gF G (ab_mo M.1) (ab_mi M.1)) (ab_gO G) h (.new ix) k (st.map (ab_rn f)) = none from rfl, show ab_s5 (ab_gF G (ab_mo M.1) (ab_mi M.1)) (ab_gO G) (ab_gK G) h (.new ix) k (st.map (ab_rn f)) = none from rfl, e9]
                          rfl
                        rw [hst, nr _ _ _ (by show (6 : Nat) ≠ 11; decide)]
                        dsimp only
                        refine ⟨h ++ [.inl 6], ?_, ab_sim.push he [.inl 6]⟩
                        rw [show ab_obi G (ab_mo M.1) (.new ix) k (st.map (ab_rn f)) = none from rfl, show ab_cpy G (ab_mo M.1) h (.new ix) k (st.map (ab_rn f)) = none from rfl, show ab_call G (ab_mo M.1) h (.new ix) k (st.map (ab_rn f)) = none from rfl, show ab_ath G h (.new ix) k (st.map (ab_rn f)) = none from rfl]
                        dsimp only
                        refine (if_pos ⟨hd8.1, by rw [ab_cat_rn]; exact hd8.2⟩).trans ?_
                        show some (Sum.inr (cls, h.length), _) = some (Sum.inr (cls, f h0.length), _)
                        rw [show f h0.length = h.length from he.2.2 0]
                      · cases hs
                    · cases hs
end RN5

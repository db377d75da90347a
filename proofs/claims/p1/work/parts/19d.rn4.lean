section RN4
variable {f : Nat → Nat}
theorem ab_s5_no {fT : ab_FT} {oc : Nat → Option FieldType} {cl : List vw_C} {X : ab_X} {o pc : Nat} {h0 h : List ab_E} (he : ab_emb f h0 h) {i : Instr} {k : Nat} {st : List Value} {r : Nat × List Value × List ab_E} (h5 : ab_s5 fT oc cl h0 i k st = none) (h9 : ab_s9 X oc o h0 i k pc st = some r) : ab_s5 fT oc cl h i k (st.map (ab_rn f)) = none := by
  unfold ab_s9 at h9
  split at h9
  all_goals first | rfl | skip
  · obtain ⟨⟨u, l⟩, g1, g2⟩ := Option.bind_eq_some_iff.mp h9
    split at g2
    · rename_i hv
      split at g2
      · cases g2
      · rename_i hi
        simp only [ab_s5, g1, Option.bind_some, hv, if_neg hi] at h5
        dsimp only at hi
        simp only [ab_s5, List.map_cons, ab_rn, ab_arR_rn he g1, Option.bind_some, he.1 _ _ hv, ab_rnE, List.length_map, if_neg hi]
        split at h5
        · cases h5
        · rename_i hq
          exact if_neg hq
    · cases g2
  · cases h9
theorem ab_s4_no {fT : ab_FT} {oc : Nat → Option FieldType} {X : ab_X} {o : Nat} {h : List ab_E} {i : Instr} {k : Nat} {st st' : List Value} (h8 : ab_s8 X o i k st = some st') : ab_s4 fT oc h i k (st.map (ab_rn f)) = none := by
  unfold ab_s8 at h8
  split at h8
  all_goals first | rfl | (cases h8; done)
theorem ab_s7_no {kI : Nat → Option Int32} {kL : Nat → Option Int64} {i : Instr} {k : Nat} {st : List Value} (h7 : ab_s7 kI kL i k st = none) : ab_s7 kI kL i k (st.map (ab_rn f)) = none := by
  unfold ab_s7 at h7 ⊢
  split at h7
  all_goals first | exact Option.map_eq_none_iff.mpr (Option.map_eq_none_iff.mp h7) | rfl
theorem ab_s8_no {X : ab_X} {o : Nat} {oc : Nat → Option FieldType} {pc : Nat} {h0 : List ab_E} {i : Instr} {k : Nat} {st st2 : List Value} {r : Nat × List Value × List ab_E} (h9 : ab_s9 X oc o h0 i k pc st = some r) : ab_s8 X o i k st2 = none := by
  unfold ab_s9 at h9
  split at h9
  all_goals first | rfl | (cases h9; done)
/-- one instruction -/
theorem ab_step_rn {G : ab_G} (hG : ab_pure G) {M : ab_MI} {h0 h h1 : List ab_E} (he : ab_emb f h0 h) {i : Instr} {k pc pc' : Nat} {lv lv' : ab_L} {st st' : List Value} (hs : ab_step G M i k pc lv st h0 = some (pc', lv', st', h1)) : ∃ h', ab_step G M i k pc (ab_rnL f lv) (st.map (ab_rn f)) h = some (pc', ab_rnL f lv', st'.map (ab_rn f), h') ∧ ab_sim f h0 h h1 h' := by
  obtain ⟨hC, hX1, hX2, hX3⟩ := hG f
  unfold ab_step at hs
  unfold ab_step
  split at hs
  · rename_i g
    cases hs
    rw [ab_s1_rn g]
    exact ⟨h, rfl, ab_sim.rf he⟩
  · split at hs
    · rename_i g
      cases hs
      rw [ab_no (x := ab_s1 i k (st.map (ab_rn f))) (fun r q => by have a := ab_c1 q; have b := ab_c2 g; omega), ab_s2_rn g]
      exact ⟨h, rfl, ab_sim.rf he⟩
    · split at hs
      · rename_i g
        cases hs
        have b := ab_c3 g
        rw [ab_no (x := ab_s1 i k (st.map (ab_rn f))) (fun r q => by have a := ab_c1 q; omega), ab_no (x := ab_s2 (ab_mL M) i k (ab_rnL f lv) (st.map (ab_rn f))) (fun r q => by have a := ab_c2 q; omega), ab_s3_rn g]
        exact ⟨h, rfl, ab_sim.rf he⟩
      · split at hs
        · rename_i g
          cases hs
          have b := ab_c4 g
          rw [ab_no (x := ab_s1 i k (st.map (ab_rn f))) (fun r q => by have a := ab_c1 q; omega), ab_no (x := ab_s2 (ab_mL M) i k (ab_rnL f lv) (st.map (ab_rn f))) (fun r q => by have a := ab_c2 q; omega), ab_no (x := ab_s3 i k pc (st.map (ab_rn f))) (fun r q => by have a := ab_c3 q; omega), ab_s4_rn he g]
          exact ⟨h, rfl, ab_sim.rf he⟩
        · split at hs
          · rename_i g
            cases hs
            have b := ab_c5 g
            obtain ⟨h', e1, e2⟩ := ab_s5_rn he g
            rw [ab_no (x := ab_s1 i k (st.map (ab_rn f))) (fun r q => by have a := ab_c1 q; omega), ab_no (x := ab_s2 (ab_mL M) i k (ab_rnL f lv) (st.map (ab_rn f))) (fun r q => by have a := ab_c2 q; omega), ab_no (x := ab_s3 i k pc (st.map (ab_rn f))) (fun r q => by have a := ab_c3 q; omega), ab_no (x := ab_s4 (ab_gF G (ab_mo M) (ab_mi M)) (ab_gO G) h i k (st.map (ab_rn f))) (fun r q => by have a := ab_c4 q; omega), e1]
            exact ⟨h', rfl, e2⟩
          · rename_i n5
            split at hs
            · rename_i x9 g
              cases hs
              have b := ab_c6 g
              obtain ⟨e1, e2⟩ := ab_s6_rn (hC _) he g
              rw [ab_no (x := ab_s1 i k (st.map (ab_rn f))) (fun r q => by have a := ab_c1 q; omega), ab_no (x := ab_s2 (ab_mL M) i k (ab_rnL f lv) (st.map (ab_rn f))) (fun r q => by have a := ab_c2 q; omega), ab_no (x := ab_s3 i k pc (st.map (ab_rn f))) (fun r q => by have a := ab_c3 q; omega), ab_no (x := ab_s4 (ab_gF G (ab_mo M) (ab_mi M)) (ab_gO G) h i k (st.map (ab_rn f))) (fun r q => by have a := ab_c4 q; omega), ab_no (x := ab_s5 (ab_gF G (ab_mo M) (ab_mi M)) (ab_gO G) (ab_gK G) h i k (st.map (ab_rn f))) (fun r q => by have a := ab_c5 q; omega), e1]
              refine ⟨_, rfl, ?_⟩
              have e3 := ab_sim.push he [x9]
              rw [List.map_singleton, e2] at e3
              exact e3
            · split at hs
              · rename_i g
                cases hs
                have b := ab_c7 g
                rw [ab_no (x := ab_s1 i k (st.map (ab_rn f))) (fun r q => by have a := ab_c1 q; omega), ab_no (x := ab_s2 (ab_mL M) i k (ab_rnL f lv) (st.map (ab_rn f))) (fun r q => by have a := ab_c2 q; omega), ab_no (x := ab_s3 i k pc (st.map (ab_rn f))) (fun r q => by have a := ab_c3 q; omega), ab_no (x := ab_s4 (ab_gF G (ab_mo M) (ab_mi M)) (ab_gO G) h i k (st.map (ab_rn f))) (fun r q => by have a := ab_c4 q; omega), ab_no (x := ab_s5 (ab_gF G (ab_mo M) (ab_mi M)) (ab_gO G) (ab_gK G) h i k (st.map (ab_rn f))) (fun r q => by have a := ab_c5 q; omega), ab_no (x := ab_s6 (ab_gC G (ab_mo M)) h i k (st.map (ab_rn f))) (fun r q => by have a := ab_c6 q; omega), ab_s7_rn g]
                exact ⟨h, rfl, ab_sim.rf he⟩
              · rename_i n7
                split at hs
                · rename_i g
                  cases hs
                  have b := ab_c8 g
                  rw [ab_no (x := ab_s1 i k (st.map (ab_rn f))) (fun r q => by have a := ab_c1 q; omega), ab_no (x := ab_s2 (ab_mL M) i k (ab_rnL f lv) (st.map (ab_rn f))) (fun r q => by have a := ab_c2 q; omega), ab_no (x := ab_s3 i k pc (st.map (ab_rn f))) (fun r q => by have a := ab_c3 q; omega), ab_s4_no g, ab_no (x := ab_s5 (ab_gF G (ab_mo M) (ab_mi M)) (ab_gO G) (ab_gK G) h i k (st.map (ab_rn f))) (fun r q => by have a := ab_c5 q; omega), ab_no (x := ab_s6 (ab_gC G (ab_mo M)) h i k (st.map (ab_rn f))) (fun r q => by have a := ab_c6 q; omega), ab_s7_no n7, ab_s8_rn hX1 hX2 hX3 g]
                  exact ⟨h, rfl, ab_sim.rf he⟩
                · split at hs
                  · rename_i g
                    cases hs
                    have b := ab_c9 g
                    obtain ⟨h', e1, e2⟩ := ab_s9_rn he g
                    rw [ab_no (x := ab_s1 i k (st.map (ab_rn f))) (fun r q => by have a := ab_c1 q; omega), ab_no (x := ab_s2 (ab_mL M) i k (ab_rnL f lv) (st.map (ab_rn f))) (fun r q => by have a := ab_c2 q; omega), ab_no (x := ab_s3 i k pc (st.map (ab_rn f))) (fun r q => by have a := ab_c3 q; omega), ab_no (x := ab_s4 (ab_gF G (ab_mo M) (ab_mi M)) (ab_gO G) h i k (st.map (ab_rn f))) (fun r q => by have a := ab_c4 q; omega), ab_s5_no he n5 g, ab_no (x := ab_s6 (ab_gC G (ab_mo M)) h i k (st.map (ab_rn f))) (fun r q => by have a := ab_c6 q; omega), ab_s7_no n7, ab_s8_no g, e1]
                    exact ⟨h', rfl, e2⟩
                  · split at hs
                    · rename_i g
                      cases hs
                      have b := ab_c10 g
                      rw [ab_no (x := ab_s1 i k (st.map (ab_rn f))) (fun r q => by have a := ab_c1 q; omega), ab_no (x := ab_s2 (ab_mL M) i k (ab_rnL f lv) (st.map (ab_rn f))) (fun r q => by have a := ab_c2 q; omega), ab_no (x := ab_s3 i k pc (st.map (ab_rn f))) (fun r q => by have a := ab_c3 q; omega), ab_no (x := ab_s4 (ab_gF G (ab_mo M) (ab_mi M)) (ab_gO G) h i k (st.map (ab_rn f))) (fun r q => by have a := ab_c4 q; omega), ab_no (x := ab_s5 (ab_gF G (ab_mo M) (ab_mi M)) (ab_gO G) (ab_gK G) h i k (st.map (ab_rn f))) (fun r q => by have a := ab_c5 q; omega), ab_no (x := ab_s6 (ab_gC G (ab_mo M)) h i k (st.map (ab_rn f))) (fun r q => by have a := ab_c6 q; omega), ab_s7_no n7, ab_no (x := ab_s8 (ab_gX G) (ab_mo M) i k (st.map (ab_rn f))) (fun r q => by have a := ab_c8 q; omega), ab_no (x := ab_s9 (ab_gX G) (ab_gO G) (ab_mo M) h i k pc (st.map (ab_rn f))) (fun r q => by have a := ab_c9 q; omega), ab_s10_rn he g]
                      exact ⟨_, rfl, ab_sim.push he _⟩
                    · cases hs
/-- no piece does it -/
theorem ab_step_no {G : ab_G} {M : ab_MI} {h : List ab_E} {i : Instr} {k pc : Nat} {lv : ab_L} {st : List Value} (hc : 11 ≤ ab_c i) : ab_step G M i k pc lv st h = none := by
  unfold ab_step
  rw [ab_no (x := ab_s1 i k st) (fun r q => by have a := ab_c1 q; omega), ab_no (x := ab_s2 (ab_mL M) i k lv st) (fun r q => by have a := ab_c2 q; omega), ab_no (x := ab_s3 i k pc st) (fun r q => by have a := ab_c3 q; omega), ab_no (x := ab_s4 (ab_gF G (ab_mo M) (ab_mi M)) (ab_gO G) h i k st) (fun r q => by have a := ab_c4 q; omega), ab_no (x := ab_s5 (ab_gF G (ab_mo M) (ab_mi M)) (ab_gO G) (ab_gK G) h i k st) (fun r q => by have a := ab_c5 q; omega), ab_no (x := ab_s6 (ab_gC G (ab_mo M)) h i k st) (fun r q => by have a := ab_c6 q; omega), ab_no (x := ab_s7 (ab_gI G (ab_mo M)) (ab_gL G (ab_mo M)) i k st) (fun r q => by have a := ab_c7 q; omega), ab_no (x := ab_s8 (ab_gX G) (ab_mo M) i k st) (fun r q => by have a := ab_c8 q; omega), ab_no (x := ab_s9 (ab_gX G) (ab_gO G) (ab_mo M) h i k pc st) (fun r q => by have a := ab_c9 q; omega), ab_no (x := ab_s10 (ab_gX G) (ab_mo M) h i k st) (fun r q => by have a := ab_c10 q; omega)]
theorem ab_ret_c {rt : Option FieldType} {i : Instr} {k : Nat} {st : List Value} {r : Option Value} (hs : ab_ret rt i k st = some r) : ab_c i = 11 := by
  unfold ab_ret at hs
  split at hs <;> first | rfl | (cases hs; done)
theorem ab_ret_rn {rt : Option FieldType} {i : Instr} {k : Nat} {st : List Value} {r : Option Value} (hs : ab_ret rt i k st = some r) : ab_ret rt i k (st.map (ab_rn f)) = some (r.map (ab_rn f)) := by
  unfold ab_ret at hs
  split at hs
  all_goals first | (cases hs; rfl) | skip
  all_goals first | (cases hs; done) | skip
  all_goals
    split at hs
    · rename_i hn
      cases hs
      exact if_pos hn
    · cases hs
theorem ab_cat_rn (r : List Value) : ab_cat (r.map (ab_rn f)) = ab_cat r := by
  unfold ab_cat
  rw [List.map_map]
  congr 1
  exact List.map_congr_left fun v _ => ab_rn_cat f v
theorem ab_obi_c {G : ab_G} {o : Nat} {i : Instr} {k : Nat} {st r : List Value} (hs : ab_obi G o i k st = some r) : ab_c i = 12 := by
  unfold ab_obi at hs
  split at hs <;> first | rfl | (cases hs; done)
theorem ab_obi_rn {G : ab_G} {o : Nat} {i : Instr} {k : Nat} {st r : List Value} (hs : ab_obi G o i k st = some r) : ab_obi G o i k (st.map (ab_rn f)) = some (r.map (ab_rn f)) := by
  unfold ab_obi at hs
  split at hs
  · split at hs
    · rename_i hgt
      split at hs
      · rename_i hc
        cases hs
        show (match ab_gT G o _ with
          | some (4, _, _, _) => _
          | _ => none) = _
        rw [hgt]
        exact if_pos (by rw [ab_cat_rn]; exact hc)
      · cases hs
    · cases hs
  · cases hs
end RN4

/-! LOCALS: a run that knows fewer locals is a run that knows more -/
/-- the locals lw' are among lw, whose places are apart -/
def ab_fw (lv' lv : ab_L) : Prop := (∀ q ∈ lv', q ∈ lv) ∧ (lv.map Prod.fst).Nodup
theorem ab_at_in {lv : ab_L} (hn : (lv.map Prod.fst).Nodup) {i : Nat} {v : Value} (h : (i, v) ∈ lv) : ab_at lv i = some v := by
  unfold ab_at
  induction lv with
  | nil => cases h
  | cons q lv ih =>
    obtain ⟨j, w⟩ := q
    rw [List.map_cons, List.nodup_cons] at hn
    rw [List.lookup_cons]
    rcases List.mem_cons.mp h with e | e
    · cases e
      rw [beq_self_eq_true]
    · have hne : i ≠ j := fun z => hn.1 (List.mem_map.mpr ⟨(i, v), e, z⟩)
      have hb : (i == j) = false := beq_false_of_ne hne
      rw [hb]
      exact ih hn.2 e
theorem ab_fw.at {lv' lv : ab_L} (hf : ab_fw lv' lv) {i : Nat} {v : Value} (h : ab_at lv' i = some v) : ab_at lv i = some v := ab_at_in hf.2 (hf.1 _ (ab_at_mem h))
theorem ab_nd_filter {lv : ab_L} (p : Nat × Value → Bool) (hn : (lv.map Prod.fst).Nodup) : ((lv.filter p).map Prod.fst).Nodup := (List.filter_sublist.map Prod.fst).nodup hn
theorem ab_fw.st1 {lv' lv : ab_L} (hf : ab_fw lv' lv) (i : Nat) (v : Value) : ab_fw (ab_st1 lv' i v) (ab_st1 lv i v) := by
  refine ⟨fun q hq => ?_, ?_⟩
  · unfold ab_st1 at hq ⊢
    rcases List.mem_cons.mp hq with e | e
    · rw [e]
      exact List.mem_cons_self
    · obtain ⟨e1, e2⟩ := List.mem_filter.mp e
      exact List.mem_cons_of_mem _ (List.mem_filter.mpr ⟨hf.1 _ e1, e2⟩)
  · unfold ab_st1
    rw [List.map_cons, List.nodup_cons]
    refine ⟨fun z => ?_, ab_nd_filter _ hf.2⟩
    obtain ⟨q, hq, e⟩ := List.mem_map.mp z
    have := (List.mem_filter.mp hq).2
    simp only [Bool.and_eq_true, Bool.not_eq_true', beq_eq_false_iff_ne] at this
    exact this.1 e
theorem ab_fw.st2 {lv' lv : ab_L} (hf : ab_fw lv' lv) (i : Nat) (v : Value) : ab_fw (ab_st2 lv' i v) (ab_st2 lv i v) := by
  refine ⟨fun q hq => ?_, ?_⟩
  · unfold ab_st2 at hq ⊢
    rcases List.mem_cons.mp hq with e | e
    · rw [e]
      exact List.mem_cons_self
    · obtain ⟨e1, e2⟩ := List.mem_filter.mp e
      exact List.mem_cons_of_mem _ (List.mem_filter.mpr ⟨hf.1 _ e1, e2⟩)
  · unfold ab_st2
    rw [List.map_cons, List.nodup_cons]
    refine ⟨fun z => ?_, ab_nd_filter _ hf.2⟩
    obtain ⟨q, hq, e⟩ := List.mem_map.mp z
    have := (List.mem_filter.mp hq).2
    simp only [Bool.and_eq_true, Bool.not_eq_true', beq_eq_false_iff_ne] at this
    exact this.1 e
theorem ab_s2_fw {nL : Nat} {i : Instr} {k : Nat} {lv' lv lw' : ab_L} {st st' : List Value} (hf : ab_fw lv' lv) (h : ab_s2 nL i k lv' st = some (lw', st')) : ∃ lw, ab_s2 nL i k lv st = some (lw, st') ∧ ab_fw lw' lw := by
  unfold ab_s2 at h
  split at h
  all_goals first
    | (split at h <;> first
        | (rename_i hv
           cases h
           exact ⟨lv, by simp only [ab_s2, hf.at hv], hf⟩)
        | (rename_i hv
           cases h
           exact ⟨_, by simp only [ab_s2, if_pos hv], hf.st1 _ _⟩)
        | (rename_i hv
           cases h
           exact ⟨_, by simp only [ab_s2, if_pos hv], hf.st2 _ _⟩)
        | (rename_i hv
           split at h
           · rename_i hl
             cases h
             exact ⟨_, by simp only [ab_s2, hf.at hv, if_pos hl], hf.st1 _ _⟩
           · cases h)
        | (cases h; done))
    | (cases h; done)
theorem ab_step_fw {G : ab_G} {M : ab_MI} {i : Instr} {k pc pc' : Nat} {lv' lv lw' : ab_L} {st st' : List Value} {h h' : List ab_E} (hf : ab_fw lv' lv) (hs : ab_step G M i k pc lv' st h = some (pc', lw', st', h')) : ∃ lw, ab_step G M i k pc lv st h = some (pc', lw, st', h') ∧ ab_fw lw' lw := by
  cases h2 : ab_s2 (ab_mL M) i k lv' st with
  | some q =>
    obtain ⟨lw2, st2⟩ := q
    have c := ab_c2 h2
    have n1 : ab_s1 i k st = none := ab_no fun r q => by have := ab_c1 q; omega
    obtain ⟨lw, e1, e2⟩ := ab_s2_fw hf h2
    simp only [ab_step, n1, h2] at hs
    cases hs
    exact ⟨lw, by simp only [ab_step, n1, e1], e2⟩
  | none =>
    cases h3 : ab_s2 (ab_mL M) i k lv st with
    | none =>
      refine ⟨lv, ?_, ?_⟩
      · unfold ab_step at hs ⊢
        rw [h2] at hs
        rw [h3]
        dsimp only at hs ⊢
        repeat' split at hs
        all_goals first | (cases hs; rfl) | (cases hs; done) | skip
        all_goals cases hs
        all_goals simp_all
      · have : lw' = lv' := by
          unfold ab_step at hs
          rw [h2] at hs
          dsimp only at hs
          repeat' split at hs
          all_goals first | (cases hs; rfl) | (cases hs; done)
        rw [this]
        exact hf
    | some q =>
      exfalso
      have c := ab_c2 h3
      unfold ab_step at hs
      rw [show ab_s1 i k st = none from ab_no fun r q => by have := ab_c1 q; omega, h2, show ab_s3 i k pc st = none from ab_no fun r q => by have := ab_c3 q; omega, show ab_s4 (ab_gF G (ab_mo M) (ab_mi M)) (ab_gO G) h i k st = none from ab_no fun r q => by have := ab_c4 q; omega, show ab_s5 (ab_gF G (ab_mo M) (ab_mi M)) (ab_gO G) (ab_gK G) h i k st = none from ab_no fun r q => by have := ab_c5 q; omega, show ab_s6 (ab_gC G (ab_mo M)) h i k st = none from ab_no fun r q => by have := ab_c6 q; omega, show ab_s7 (ab_gI G (ab_mo M)) (ab_gL G (ab_mo M)) i k st = none from ab_no fun r q => by have := ab_c7 q; omega, show ab_s8 (ab_gX G) (ab_mo M) i k st = none from ab_no fun r q => by have := ab_c8 q; omega, show ab_s9 (ab_gX G) (ab_gO G) (ab_mo M) h i k pc st = none from ab_no fun r q => by have := ab_c9 q; omega, show ab_s10 (ab_gX G) (ab_mo M) h i k st = none from ab_no fun r q => by have := ab_c10 q; omega] at hs
      cases hs
theorem ab_step_fwn {G : ab_G} {M : ab_MI} {i : Instr} {k pc : Nat} {lv' lv : ab_L} {st : List Value} {h : List ab_E} (hc : ab_c i ≠ 2) (hs : ab_step G M i k pc lv' st h = none) : ab_step G M i k pc lv st h = none := by
  have h2 : ∀ lv, ab_s2 (ab_mL M) i k lv st = none := fun lv => ab_no fun r q => hc (ab_c2 q)
  unfold ab_step at hs ⊢
  rw [h2] at hs ⊢
  dsimp only at hs ⊢
  repeat' split at hs
  all_goals first | (cases hs; done) | skip
  all_goals simp_all
set_option maxHeartbeats 4000000 in
theorem ab_rx_fw {G : ab_G} {T : ab_GT} : ∀ (n d : Nat) (M : ab_MX) (pc : Nat) (lv' lv : ab_L) (st : List Value) (h : List ab_E) (r : ab_RX × List ab_E), ab_fw lv' lv → ab_rx G T n d M pc lv' st h = some r → ab_rx G T n d M pc lv st h = some r
  | 0, d, M, pc, lv', lv, st, h, r, hf, hs => by cases hs
  | n + 1, d, M, pc, lv', lv, st, h, r, hf, hs => by
    have ih := ab_rx_fw (G := G) (T := T) n
    have ht : ∀ (d : Nat) (E : String) (q : Nat) (h2 : List ab_E), (match ab_hd T (ab_mo M.1) E pc M.2 with
        | some (some hp) => ab_rx G T n d M hp lv' [.ref q] h2
        | some none => some (.inr (E, q), h2)
        | none => none) = some r → (match ab_hd T (ab_mo M.1) E pc M.2 with
        | some (some hp) => ab_rx G T n d M hp lv [.ref q] h2
        | some none => some (.inr (E, q), h2)
        | none => none) = some r := by
      intro d E q h2 hq
      split at hq
      · exact ih _ _ _ _ _ _ _ _ hf hq
      · exact hq
      · cases hq
    unfold ab_rx at hs ⊢
    split at hs
    · cases hs
    · rename_i i k hdg
      (try rw [hdg])
      split at hs
      · rename_i pc' lw' st' h' h1
        obtain ⟨lw, e1, e2⟩ := ab_step_fw hf h1
        simp only [e1]
        exact ih _ _ _ _ _ _ _ _ e2 hs
      · rename_i n1
        split at hs
        · rename_i r' h2
          rw [ab_step_no (Nat.le_of_eq (ab_ret_c h2).symm)]
          simp only [h2]
          exact hs
        · rename_i h2
          split at hs
          · cases hs
          · rename_i d'
            split at hs
            · rename_i r2 h3
              rw [ab_step_no (by rw [ab_obi_c h3]; decide)]
              simp only [h2, h3]
              exact ih _ _ _ _ _ _ _ _ hf hs
            · rename_i h3
              split at hs
              · rename_i r2 h' h4
                have h11 : 11 ≤ ab_c i := by
                  obtain ⟨ix, rfl | rfl, -⟩ := ab_cpy_c h4
                  · show 11 ≤ 12
                    decide
                  · show 11 ≤ 12
                    decide
                rw [ab_step_no h11]
                simp only [h2, h3, h4]
                exact ih _ _ _ _ _ _ _ _ hf hs
              · rename_i h4
                split at hs
                · rename_i y As rest h5
                  rw [ab_step_no (by rw [(ab_call_c h5).1]; decide)]
                  simp only [h2, h3, h4, h5]
                  split at hs
                  · cases hs
                  · rename_i M' h6
                    (try simp only [h6])
                    split at hs
                    · rename_i h7
                      (try simp only [if_pos h7])
                      split at hs
                      · cases hs
                      · rename_i v h' h8
                        (try simp only [h8])
                        exact ih _ _ _ _ _ _ _ _ hf hs
                      · rename_i E q h' h8
                        (try simp only [h8])
                        split at hs
                        · cases hs
                        · rename_i hsp
                          exact (if_neg hsp).trans (ht _ E q h' hs)
                    · cases hs
                · rename_i h5
                  split at hs
                  · rename_i E q h6
                    obtain rfl := ab_ath_c h6
                    rw [ab_step_no (by decide)]
                    simp only [h2, h3, h4, h5, h6]
                    exact ht _ E q h hs
                  · rename_i h6
                    split at hs
                    · rename_i cls h7
                      obtain ⟨ix, rfl⟩ := ab_thr_c h7
                      rw [ab_step_fwn (show ab_c (.new ix) ≠ 2 from (by decide : (6 : Nat) ≠ 2)) n1]
                      simp only [h2, h3, h4, h5, h6, h7]
                      exact hs
                    · cases hs
theorem ab_fin.lv {G : ab_G} {T : ab_GT} {d : Nat} {M : ab_MX} {pc : Nat} {lv lv' : ab_L} {st : List Value} {h : List ab_E} {Q : ab_RX → List ab_E → Prop} (hf : ab_fw lv' lv) (e : ab_fin G T d M pc lv' st h Q) : ab_fin G T d M pc lv st h Q := by
  obtain ⟨r, h', ⟨n, e⟩, q⟩ := e
  exact ⟨r, h', ⟨n, ab_rx_fw _ _ _ _ _ _ _ _ _ hf e⟩, q⟩

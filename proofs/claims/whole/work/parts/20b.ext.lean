/-! a run that holds where less is known of what was there before holds where more is known -/
abbrev ab_ex (G : ab_G) (s' : Nat → Nat → Option Value) (a' : Nat → Option (Nat × Nat × (Nat → Value))) : ab_G := (G.1, G.2.1, G.2.2.1, G.2.2.2.1, G.2.2.2.2.1, G.2.2.2.2.2.1, G.2.2.2.2.2.2.1, G.2.2.2.2.2.2.2.1, (s', (ab_gX G).2.1, (ab_gX G).2.2.1, a', (ab_gX G).2.2.2.2))
theorem ab_ath_c {G : ab_G} {h : List ab_E} {i : Instr} {k : Nat} {st : List Value} {r : String × Nat} (hs : ab_ath G h i k st = some r) : i = .athrow := by
  unfold ab_ath at hs
  split at hs
  · rfl
  · cases hs
section EX
variable {G : ab_G} {T : ab_GT} {s' : Nat → Nat → Option Value} {a' : Nat → Option (Nat × Nat × (Nat → Value))}
theorem ab_s8_ext (hs' : ∀ o ix v, (ab_gX G).1 o ix = some v → s' o ix = some v) (ha' : ∀ j q, (ab_gX G).2.2.2.1 j = some q → a' j = some q) {o : Nat} {i : Instr} {k : Nat} {st st' : List Value} (hs : ab_s8 (ab_gX G) o i k st = some st') : ab_s8 (ab_gX (ab_ex G s' a')) o i k st = some st' := by
  unfold ab_s8 at hs
  split at hs
  · obtain ⟨v, g1, g2⟩ := Option.map_eq_some_iff.mp hs
    show (s' _ _).map _ = _
    rw [hs' _ _ _ g1]
    exact congrArg some g2
  · exact hs
  · obtain ⟨q, g1, g2⟩ := Option.map_eq_some_iff.mp hs
    show (a' _).map _ = _
    rw [ha' _ _ g1]
    exact congrArg some g2
  · obtain ⟨q, g1, g2⟩ := Option.bind_eq_some_iff.mp hs
    show (a' _).bind _ = _
    rw [ha' _ _ g1]
    exact g2
  · obtain ⟨q, g1, g2⟩ := Option.bind_eq_some_iff.mp hs
    show (a' _).bind _ = _
    rw [ha' _ _ g1]
    exact g2
  · obtain ⟨q, g1, g2⟩ := Option.bind_eq_some_iff.mp hs
    show (a' _).bind _ = _
    rw [ha' _ _ g1]
    exact g2
  · exact hs
  · cases hs
theorem ab_s8_noX {X X2 : ab_X} {o : Nat} {oc : Nat → Option FieldType} {pc : Nat} {h0 : List ab_E} {i : Instr} {k : Nat} {st st2 : List Value} {r : Nat × List Value × List ab_E} (h9 : ab_s9 X oc o h0 i k pc st = some r) : ab_s8 X2 o i k st2 = none := by
  unfold ab_s9 at h9
  split at h9
  all_goals first | rfl | (cases h9; done)
theorem ab_step_ext (hs' : ∀ o ix v, (ab_gX G).1 o ix = some v → s' o ix = some v) (ha' : ∀ j q, (ab_gX G).2.2.2.1 j = some q → a' j = some q) {M : ab_MI} {i : Instr} {k pc : Nat} {lv : ab_L} {st : List Value} {h : List ab_E} {r : Nat × ab_L × List Value × List ab_E} (hs : ab_step G M i k pc lv st h = some r) : ab_step (ab_ex G s' a') M i k pc lv st h = some r := by
  unfold ab_step at hs ⊢
  split at hs
  · rename_i h1
    (try simp only [h1])
    exact hs
  · rename_i h1
    (try simp only [h1])
    split at hs
    · rename_i h2
      (try simp only [h2])
      exact hs
    · rename_i h2
      (try simp only [h2])
      split at hs
      · rename_i h3
        (try simp only [h3])
        exact hs
      · rename_i h3
        (try simp only [h3])
        split at hs
        · rename_i h4
          (try rw [h4])
          exact hs
        · rename_i h4
          (try rw [h4])
          split at hs
          · rename_i h5
            (try rw [h5])
            exact hs
          · rename_i h5
            (try rw [h5])
            split at hs
            · rename_i h6
              (try rw [h6])
              exact hs
            · rename_i h6
              (try rw [h6])
              split at hs
              · rename_i h7
                (try rw [h7])
                exact hs
              · rename_i h7
                (try rw [h7])
                split at hs
                · rename_i h8
                  rw [ab_s8_ext hs' ha' h8]
                  exact hs
                · split at hs
                  · rename_i h9
                    rw [ab_s8_noX h9]
                    have e9 : ab_s9 (ab_gX (ab_ex G s' a')) (ab_gO (ab_ex G s' a')) (ab_mo M) h i k pc st = ab_s9 (ab_gX G) (ab_gO G) (ab_mo M) h i k pc st := rfl
                    rw [e9, h9]
                    exact hs
                  · rename_i h9
                    split at hs
                    · rename_i h10
                      have b := ab_c10 h10
                      rw [ab_no (x := ab_s8 (ab_gX (ab_ex G s' a')) (ab_mo M) i k st) (fun r q => by have a := ab_c8 q; omega)]
                      have e9 : ab_s9 (ab_gX (ab_ex G s' a')) (ab_gO (ab_ex G s' a')) (ab_mo M) h i k pc st = ab_s9 (ab_gX G) (ab_gO G) (ab_mo M) h i k pc st := rfl
                      have e10 : ab_s10 (ab_gX (ab_ex G s' a')) (ab_mo M) h i k st = ab_s10 (ab_gX G) (ab_mo M) h i k st := rfl
                      rw [e9, h9, e10, h10]
                      exact hs
                    · cases hs
set_option maxHeartbeats 4000000 in
theorem ab_rx_ext (hs' : ∀ o ix v, (ab_gX G).1 o ix = some v → s' o ix = some v) (ha' : ∀ j q, (ab_gX G).2.2.2.1 j = some q → a' j = some q) : ∀ (n d : Nat) (M : ab_MX) (pc : Nat) (lv : ab_L) (st : List Value) (h : List ab_E) (r : ab_RX × List ab_E), ab_rx G T n d M pc lv st h = some r → ab_rx (ab_ex G s' a') T n d M pc lv st h = some r
  | 0, d, M, pc, lv, st, h, r, hs => by cases hs
  | n + 1, d, M, pc, lv, st, h, r, hs => by
    have ih := ab_rx_ext hs' ha' n
    have ht : ∀ (d : Nat) (E : String) (q : Nat) (h2 : List ab_E), (match ab_hd T (ab_mo M.1) E pc M.2 with
        | some (some hp) => ab_rx G T n d M hp lv [.ref q] h2
        | some none => some (.inr (E, q), h2)
        | none => none) = some r → (match ab_hd T (ab_mo M.1) E pc M.2 with
        | some (some hp) => ab_rx (ab_ex G s' a') T n d M hp lv [.ref q] h2
        | some none => some (.inr (E, q), h2)
        | none => none) = some r := by
      intro d E q h2 hq
      split at hq
      · exact ih _ _ _ _ _ _ _ hq
      · exact hq
      · cases hq
    unfold ab_rx at hs ⊢
    split at hs
    · cases hs
    · rename_i i k hdg
      (try rw [hdg])
      split at hs
      · rename_i pc' lv' st' h' h1
        rw [ab_step_ext hs' ha' h1]
        exact ih _ _ _ _ _ _ _ hs
      · rename_i n1
        split at hs
        · rename_i r' h2
          rw [ab_step_no (Nat.le_of_eq (ab_ret_c h2).symm)]
          (try simp only [h2])
          exact hs
        · rename_i h2
          split at hs
          · cases hs
          · rename_i d'
            have e3 : ∀ i k st, ab_obi (ab_ex G s' a') (ab_mo M.1) i k st = ab_obi G (ab_mo M.1) i k st := fun _ _ _ => rfl
            have e4 : ∀ h i k st, ab_cpy (ab_ex G s' a') (ab_mo M.1) h i k st = ab_cpy G (ab_mo M.1) h i k st := fun _ _ _ _ => rfl
            have e5 : ∀ h i k st, ab_call (ab_ex G s' a') (ab_mo M.1) h i k st = ab_call G (ab_mo M.1) h i k st := fun _ _ _ _ => rfl
            have e6 : ∀ y, ab_mx (ab_ex G s' a') T y = ab_mx G T y := fun _ => rfl
            have e7 : ∀ h i k st, ab_ath (ab_ex G s' a') h i k st = ab_ath G h i k st := fun _ _ _ _ => rfl
            split at hs
            · rename_i r2 h3
              rw [ab_step_no (by rw [ab_obi_c h3]; decide)]
              simp only [h2, e3, h3]
              exact ih _ _ _ _ _ _ _ hs
            · rename_i h3
              split at hs
              · rename_i r2 h' h4
                have h11 : 11 ≤ ab_c i := by
                  obtain ⟨ix, rfl | rfl, -⟩ := ab_cpy_c h4
                  · show 11 ≤ 12
                    decide
                  · show 11 ≤ 12
                    decide
                rw [ab_step_no h11]
                simp only [h2, e3, h3, e4, h4]
                exact ih _ _ _ _ _ _ _ hs
              · rename_i h4
                split at hs
                · rename_i y As rest h5
                  rw [ab_step_no (by rw [(ab_call_c h5).1]; decide)]
                  simp only [h2, e3, h3, e4, h4, e5, h5, e6]
                  split at hs
                  · cases hs
                  · rename_i M' h6
                    (try simp only [h6])
                    split at hs
                    · rename_i h7
                      (try simp only [if_pos h7])
                      split at hs
                      · cases hs
                      · rename_i v h' h8
                        rw [ih _ _ _ _ _ _ _ h8]
                        exact ih _ _ _ _ _ _ _ hs
                      · rename_i E q h' h8
                        rw [ih _ _ _ _ _ _ _ h8]
                        split at hs
                        · cases hs
                        · rename_i hsp
                          exact (if_neg hsp).trans (ht _ E q h' hs)
                    · cases hs
                · rename_i h5
                  split at hs
                  · rename_i E q h6
                    obtain rfl := ab_ath_c h6
                    rw [ab_step_no (by decide)]
                    simp only [h2, e3, h3, e4, h4, e5, h5, e7, h6]
                    exact ht _ E q h hs
                  · rename_i h6
                    split at hs
                    · rename_i cls h7
                      obtain ⟨ix, rfl⟩ := ab_thr_c h7
                      have hst : ab_step (ab_ex G s' a') M.1 (.new ix) k pc lv st h = none := by
                        have e8 : ab_step (ab_ex G s' a') M.1 (.new ix) k pc lv st h = ab_step G M.1 (.new ix) k pc lv st h := rfl
                        rw [e8]
                        exact n1
                      rw [hst]
                      simp only [h2, e3, h3, e4, h4, e5, h5, e7, h6]
                      exact hs
                    · cases hs
theorem ab_ev.ext {d : Nat} {M : ab_MX} {pc : Nat} {lv : ab_L} {st : List Value} {h h' : List ab_E} {r : ab_RX} (hs' : ∀ o ix v, (ab_gX G).1 o ix = some v → s' o ix = some v) (ha' : ∀ j q, (ab_gX G).2.2.2.1 j = some q → a' j = some q) (e : ab_ev G T d M pc lv st h r h') : ab_ev (ab_ex G s' a') T d M pc lv st h r h' := by
  obtain ⟨n, e⟩ := e
  exact ⟨n, ab_rx_ext hs' ha' _ _ _ _ _ _ _ _ e⟩
end EX

/-! BIG STEPS: what a run comes to, without its fuel -/
set_option maxHeartbeats 4000000 in
theorem ab_rx_mono {G : ab_G} {T : ab_GT} : ∀ (n d : Nat) (M : ab_MX) (pc : Nat) (lv : ab_L) (st : List Value) (h : List ab_E) (r : ab_RX × List ab_E), ab_rx G T n d M pc lv st h = some r → ∀ (n2 d2 : Nat), n ≤ n2 → d ≤ d2 → ab_rx G T n2 d2 M pc lv st h = some r
  | 0, d, M, pc, lv, st, h, r, hs => by cases hs
  | n + 1, d, M, pc, lv, st, h, r, hs => by
    intro n2 d2 hn hd
    obtain ⟨n3, rfl⟩ : ∃ n3, n2 = n3 + 1 := ⟨n2 - 1, by omega⟩
    have ih := ab_rx_mono (G := G) (T := T) n
    have ht : ∀ (d d2 : Nat) (E : String) (q : Nat) (h2 : List ab_E), d ≤ d2 → (match ab_hd T (ab_mo M.1) E pc M.2 with
        | some (some hp) => ab_rx G T n d M hp lv [.ref q] h2
        | some none => some (.inr (E, q), h2)
        | none => none) = some r → (match ab_hd T (ab_mo M.1) E pc M.2 with
        | some (some hp) => ab_rx G T n3 d2 M hp lv [.ref q] h2
        | some none => some (.inr (E, q), h2)
        | none => none) = some r := by
      intro d d2 E q h2 hd2 hq
      split at hq
      · exact ih _ _ _ _ _ _ _ hq _ _ (by omega) hd2
      · exact hq
      · cases hq
    unfold ab_rx at hs ⊢
    split at hs
    · cases hs
    · rename_i i k hdg
      (try rw [hdg])
      split at hs
      · rename_i pc' lv' st' h' h1
        (try simp only [h1])
        exact ih _ _ _ _ _ _ _ hs _ _ (by omega) hd
      · rename_i h1
        (try simp only [h1])
        split at hs
        · rename_i r' h2
          (try simp only [h2])
          exact hs
        · rename_i h2
          (try simp only [h2])
          split at hs
          · cases hs
          · rename_i d'
            obtain ⟨d3, rfl⟩ : ∃ d3, d2 = d3 + 1 := ⟨d2 - 1, by omega⟩
            split at hs
            · rename_i r2 h3
              (try simp only [h3])
              exact ih _ _ _ _ _ _ _ hs _ _ (by omega) hd
            · rename_i h3
              (try simp only [h3])
              split at hs
              · rename_i r2 h' h4
                (try simp only [h4])
                exact ih _ _ _ _ _ _ _ hs _ _ (by omega) hd
              · rename_i h4
                (try simp only [h4])
                split at hs
                · rename_i y As rest h5
                  (try simp only [h5])
                  split at hs
                  · cases hs
                  · rename_i M' h6
                    (try simp only [h6])
                    split at hs
                    · rename_i h7
                      (try simp only [if_pos h7])
                      split at hs
                      · cases hs
                      · rename_i v h' h8
                        rw [ih _ _ _ _ _ _ _ h8 n3 d3 (by omega) (by omega)]
                        exact ih _ _ _ _ _ _ _ hs _ _ (by omega) hd
                      · rename_i E q h' h8
                        rw [ih _ _ _ _ _ _ _ h8 n3 d3 (by omega) (by omega)]
                        split at hs
                        · cases hs
                        · rename_i hsp
                          exact (if_neg hsp).trans (ht _ _ E q h' hd hs)
                    · cases hs
                · rename_i h5
                  (try simp only [h5])
                  split at hs
                  · rename_i E q h6
                    (try simp only [h6])
                    exact ht _ _ E q h hd hs
                  · rename_i h6
                    (try simp only [h6])
                    split at hs
                    · rename_i cls h7
                      (try simp only [h7])
                      split at hs
                      · rename_i h8
                        exact (if_pos ⟨by omega, h8.2⟩).trans hs
                      · cases hs
                    · cases hs
def ab_ev (G : ab_G) (T : ab_GT) (d : Nat) (M : ab_MX) (pc : Nat) (lv : ab_L) (st : List Value) (h : List ab_E) (r : ab_RX) (h' : List ab_E) : Prop := ∃ n, ab_rx G T n d M pc lv st h = some (r, h')
section EV
variable {G : ab_G} {T : ab_GT} {d : Nat} {M : ab_MX} {pc : Nat} {lv : ab_L} {st : List Value} {h h' : List ab_E} {r : ab_RX}
theorem ab_ev.up {d2 : Nat} (e : ab_ev G T d M pc lv st h r h') (hd : d ≤ d2) : ab_ev G T d2 M pc lv st h r h' := by
  obtain ⟨n, e⟩ := e
  exact ⟨n, ab_rx_mono _ _ _ _ _ _ _ _ e n d2 (Nat.le_refl _) hd⟩
/-- an instruction -/
theorem ab_ev.step {i : Instr} {k pc' : Nat} {lv' : ab_L} {st' : List Value} {h1 : List ab_E} (hd : decode (ab_mc M.1) pc = .ok (i, k)) (hs : ab_step G M.1 i k pc lv st h = some (pc', lv', st', h1)) (e : ab_ev G T d M pc' lv' st' h1 r h') : ab_ev G T d M pc lv st h r h' := by
  obtain ⟨n, e⟩ := e
  refine ⟨n + 1, ?_⟩
  rw [ab_rx, hd]
  simp only [hs]
  exact e
/-- the end -/
theorem ab_ev.ret {i : Instr} {k : Nat} {v : Option Value} (hd : decode (ab_mc M.1) pc = .ok (i, k)) (hr : ab_ret (ab_mr M.1) i k st = some v) : ab_ev G T d M pc lv st h (.inl v) h := by
  refine ⟨1, ?_⟩
  rw [ab_rx, hd]
  simp only [ab_step_no (G := G) (M := M.1) (h := h) (k := k) (pc := pc) (lv := lv) (st := st) (Nat.le_of_eq (ab_ret_c hr).symm), hr]
/-- Object() -/
theorem ab_ev.obi {i : Instr} {k : Nat} {st' : List Value} (hd : decode (ab_mc M.1) pc = .ok (i, k)) (ho : ab_obi G (ab_mo M.1) i k st = some st') (e : ab_ev G T (d + 1) M (pc + 3) lv st' h r h') : ab_ev G T (d + 1) M pc lv st h r h' := by
  obtain ⟨n, e⟩ := e
  refine ⟨n + 1, ?_⟩
  have c := ab_obi_c ho
  have nr : ab_ret (ab_mr M.1) i k st = none := ab_no fun r q => by have := ab_ret_c q; omega
  rw [ab_rx, hd]
  simp only [ab_step_no (G := G) (M := M.1) (h := h) (k := k) (pc := pc) (lv := lv) (st := st) (i := i) (by omega), nr, ho]
  exact e
/-- a call that returns -/
theorem ab_ev.call {i : Instr} {k y : Nat} {As rest : List Value} {M' : ab_MX} {v : Option Value} {h1 : List ab_E} (hd : decode (ab_mc M.1) pc = .ok (i, k)) (hc : ab_call G (ab_mo M.1) h i k st = some (y, As, rest)) (hM : ab_mx G T y = some M') (hl : (lg_sl As).length ≤ ab_mL M'.1) (e1 : ab_ev G T d M' 0 (lv_args 0 As) [] h (.inl v) h1)
    (e : ab_ev G T (d + 1) M (pc + 3) lv (v.toList ++ rest) h1 r h') : ab_ev G T (d + 1) M pc lv st h r h' := by
  obtain ⟨n1, e1⟩ := e1
  obtain ⟨n, e⟩ := e
  obtain ⟨c1, c2, c3⟩ := ab_call_c hc
  refine ⟨(n1 + n) + 1, ?_⟩
  have nr : ab_ret (ab_mr M.1) i k st = none := ab_no fun r q => by have := ab_ret_c q; omega
  rw [ab_rx, hd]
  simp only [ab_step_no (G := G) (M := M.1) (h := h) (k := k) (pc := pc) (lv := lv) (st := st) (i := i) (by omega), nr, c2, c3, hc, hM, if_pos hl, ab_rx_mono _ _ _ _ _ _ _ _ e1 (n1 + n) d (Nat.le_add_right _ _) (Nat.le_refl _)]
  exact ab_rx_mono _ _ _ _ _ _ _ _ e _ _ (Nat.le_add_left _ _) (Nat.le_refl _)
/-- a call that throws, caught here -/
theorem ab_ev.callC {i : Instr} {k y q hp : Nat} {E : String} {As rest : List Value} {M' : ab_MX} {h1 : List ab_E} (hd : decode (ab_mc M.1) pc = .ok (i, k)) (hsp : ab_sp i = false) (hc : ab_call G (ab_mo M.1) h i k st = some (y, As, rest)) (hM : ab_mx G T y = some M') (hl : (lg_sl As).length ≤ ab_mL M'.1) (e1 : ab_ev G T d M' 0 (lv_args 0 As) [] h (.inr (E, q)) h1) (hh : ab_hd T (ab_mo M.1) E pc M.2 = some (some hp))
    (e : ab_ev G T (d + 1) M hp lv [.ref q] h1 r h') : ab_ev G T (d + 1) M pc lv st h r h' := by
  obtain ⟨n1, e1⟩ := e1
  obtain ⟨n, e⟩ := e
  obtain ⟨c1, c2, c3⟩ := ab_call_c hc
  refine ⟨(n1 + n) + 1, ?_⟩
  have nr : ab_ret (ab_mr M.1) i k st = none := ab_no fun r q => by have := ab_ret_c q; omega
  have hsp2 : ¬ ab_sp i = true := by rw [hsp]; exact Bool.false_ne_true
  rw [ab_rx, hd]
  simp only [ab_step_no (G := G) (M := M.1) (h := h) (k := k) (pc := pc) (lv := lv) (st := st) (i := i) (by omega), nr, c2, c3, hc, hM, if_pos hl, ab_rx_mono _ _ _ _ _ _ _ _ e1 (n1 + n) d (Nat.le_add_right _ _) (Nat.le_refl _), if_neg hsp2, hh]
  exact ab_rx_mono _ _ _ _ _ _ _ _ e _ _ (Nat.le_add_left _ _) (Nat.le_refl _)
/-- a call that throws, not caught here -/
theorem ab_ev.callX {i : Instr} {k y q : Nat} {E : String} {As rest : List Value} {M' : ab_MX} {h1 : List ab_E} (hd : decode (ab_mc M.1) pc = .ok (i, k)) (hsp : ab_sp i = false) (hc : ab_call G (ab_mo M.1) h i k st = some (y, As, rest)) (hM : ab_mx G T y = some M') (hl : (lg_sl As).length ≤ ab_mL M'.1) (e1 : ab_ev G T d M' 0 (lv_args 0 As) [] h (.inr (E, q)) h1) (hh : ab_hd T (ab_mo M.1) E pc M.2 = some none) :
    ab_ev G T (d + 1) M pc lv st h (.inr (E, q)) h1 := by
  obtain ⟨n1, e1⟩ := e1
  obtain ⟨c1, c2, c3⟩ := ab_call_c hc
  refine ⟨n1 + 1, ?_⟩
  have nr : ab_ret (ab_mr M.1) i k st = none := ab_no fun r q => by have := ab_ret_c q; omega
  have hsp2 : ¬ ab_sp i = true := by rw [hsp]; exact Bool.false_ne_true
  rw [ab_rx, hd]
  simp only [ab_step_no (G := G) (M := M.1) (h := h) (k := k) (pc := pc) (lv := lv) (st := st) (i := i) (by omega), nr, c2, c3, hc, hM, if_pos hl, e1, if_neg hsp2, hh]
/-- 'throw new E()' -/
theorem ab_ev.thr {i : Instr} {k : Nat} {cls : String} (hd : decode (ab_mc M.1) pc = .ok (i, k)) (ht : ab_thr T M pc i k = some cls) (hn : ∀ ix, i = .new ix → ab_gC G (ab_mo M.1) ix = none) (h8 : 8 ≤ d) (hc : ab_cat st ≤ 8) : ab_ev G T (d + 1) M pc lv st h (.inr (cls, h.length)) (h ++ [.inl 6]) := by
  obtain ⟨ix, rfl⟩ := ab_thr_c ht
  have hn := hn ix rfl
  have hst : ab_step G M.1 (.new ix) k pc lv st h = none := by
    have e9 : ab_s6 (ab_gC G (ab_mo M.1)) h (.new ix) k st = none := by
      refine ab_no fun r q => ?_
      unfold ab_s6 at q
      split at q
      · rename_i e9
        cases e9
        rw [hn] at q
        cases q
      · first | (rename_i e7 _; cases e7; done) | (rename_i e7 _ _; cases e7; done) | (rename_i e7; cases e7; done)
      · cases q
    unfold ab_step
    rw [show ab_s1 (.new ix) k st = none from rfl, show ab_s2 (ab_mL M.1) (.new ix) k lv st = none from rfl, show ab_s3 (.new ix) k pc st = none from rfl, show ab_s4 (ab_gF G (ab_mo M.1) (ab_mi M.1)) (ab_gO G) h (.new ix) k st = none from rfl, show ab_s5 (ab_gF G (ab_mo M.1) (ab_mi M.1)) (ab_gO G) (ab_gK G) h (.new ix) k st = none from rfl, e9]
    rfl
  have nr : ab_ret (ab_mr M.1) (.new ix) k st = none := ab_no fun r q => by cases ab_ret_c q
  refine ⟨1, ?_⟩
  rw [ab_rx, hd]
  simp only [hst, nr, show ab_obi G (ab_mo M.1) (.new ix) k st = none from rfl, show ab_cpy G (ab_mo M.1) h (.new ix) k st = none from rfl, show ab_call G (ab_mo M.1) h (.new ix) k st = none from rfl, show ab_ath G h (.new ix) k st = none from rfl, ht, if_pos (And.intro h8 hc)]
/-- a run on a small heap, done behind P -/
theorem ab_ev.behind (hG : ab_pure G) (e : ab_ev G T d M pc lv st h r h') (P : List ab_E) : ab_ev G T d M pc (ab_rnL (fun k => P.length + k) lv) (st.map (ab_rn (fun k => P.length + k))) (P ++ h.map (ab_rnE (fun k => P.length + k))) (ab_rnR (fun k => P.length + k) r) (P ++ h'.map (ab_rnE (fun k => P.length + k))) := by
  obtain ⟨n, e⟩ := e
  have he : ab_emb (fun k => P.length + k) h (P ++ h.map (ab_rnE (fun k => P.length + k))) := by
    refine ⟨fun k x hk => ?_, fun j k q => Nat.add_left_cancel q, fun j => ?_⟩
    · rw [List.getElem?_append_right (Nat.le_add_right _ _), Nat.add_sub_cancel_left, List.getElem?_map, hk]
      rfl
    · rw [List.length_append, List.length_map, Nat.add_assoc]
  obtain ⟨h2, e1, ⟨e2, e3, e4, -⟩⟩ := ab_rx_rn hG n d M pc lv st h _ h' r e he
  have hh : h2 = P ++ h'.map (ab_rnE (fun k => P.length + k)) := by
    rw [List.length_append, List.length_map] at e4
    refine List.ext_getElem? fun j => ?_
    by_cases g : j < P.length
    · rw [e3 j (by rw [List.length_append]; omega) (fun k _ z => by have z : P.length + k = j := z; omega), List.getElem?_append_left g, List.getElem?_append_left g]
    · rw [List.getElem?_append_right (Nat.not_lt.mp g), List.getElem?_map]
      cases hx : h'[j - P.length]? with
      | some x =>
        have := e2.1 _ _ hx
        dsimp only at this
        rw [show P.length + (j - P.length) = j by omega] at this
        exact this
      | none =>
        have := List.getElem?_eq_none_iff.mp hx
        exact List.getElem?_eq_none (by omega)
  rw [hh] at e1
  exact ⟨n, e1⟩
/-- a run of the other kind -/
theorem ab_ev.of {n : Nat} {M0 : ab_MI} {v : Option Value} (hT : ∀ (y : Nat) (M : ab_MI), ab_gM G y = some M → T.2.2.2 y = none) (e : ab_run G n d M0 pc lv st h = some (v, h')) (tb : ab_H) : ab_ev G T d (M0, tb) pc lv st h (.inl v) h' := ⟨n, ab_rx_of hT _ _ _ _ _ _ _ _ _ _ e⟩
end EV

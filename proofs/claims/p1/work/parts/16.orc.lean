/-! more fuel, more depth; runs that use what is known of their callees -/
set_option maxHeartbeats 4000000 in
theorem ab_run_mono {G : ab_G} : ∀ (n d : Nat) (M : ab_MI) (pc : Nat) (lv : ab_L) (st : List Value) (h : List ab_E) (r : Option Value × List ab_E), ab_run G n d M pc lv st h = some r → ∀ (n2 d2 : Nat), n ≤ n2 → d ≤ d2 → ab_run G n2 d2 M pc lv st h = some r
  | 0, d, M, pc, lv, st, h, r, hs => by cases hs
  | n + 1, d, M, pc, lv, st, h, r, hs => by
    intro n2 d2 hn hd
    obtain ⟨n3, rfl⟩ : ∃ n3, n2 = n3 + 1 := ⟨n2 - 1, by omega⟩
    have ih := ab_run_mono (G := G) n
    unfold ab_run at hs ⊢
    split at hs
    · cases hs
    · rename_i i k hdg
      (try rw [hdg])
      split at hs
      · rename_i pc' lv' st' h' h1
        (try simp only [h1])
        exact ih _ _ _ _ _ _ _ hs _ _ (by omega) hd
      · rename_i h1
        (try simp only [h1])
        split at hs
        · rename_i r' h2
          (try simp only [h2])
          exact hs
        · rename_i h2
          (try simp only [h2])
          split at hs
          · cases hs
          · rename_i d'
            obtain ⟨d3, rfl⟩ : ∃ d3, d2 = d3 + 1 := ⟨d2 - 1, by omega⟩
            split at hs
            · rename_i r2 h3
              (try simp only [h3])
              exact ih _ _ _ _ _ _ _ hs _ _ (by omega) hd
            · rename_i h3
              (try simp only [h3])
              split at hs
              · rename_i r2 h' h4
                (try simp only [h4])
                exact ih _ _ _ _ _ _ _ hs _ _ (by omega) hd
              · rename_i h4
                (try simp only [h4])
                split at hs
                · cases hs
                · rename_i y As rest h5
                  (try simp only [h5])
                  split at hs
                  · cases hs
                  · rename_i M' h6
                    (try simp only [h6])
                    split at hs
                    · rename_i h7
                      (try simp only [if_pos h7])
                      split at hs
                      · cases hs
                      · rename_i v h' h8
                        rw [ih _ _ _ _ _ _ _ h8 n3 d3 (by omega) (by omega)]
                        exact ih _ _ _ _ _ _ _ hs _ _ (by omega) hd
                    · cases hs
/-- sameness of heaps, reckoned -/
def ab_eqE : ab_E → ab_E → Bool
  | .inl a, .inl b => decide (a = b)
  | .inr (.inl (t, .inl l)), .inr (.inl (u, .inl k)) => decide (t = u) && decide (l = k)
  | .inr (.inl (t, .inr (.inl l))), .inr (.inl (u, .inr (.inl k))) => decide (t = u) && decide (l = k)
  | .inr (.inl (t, .inr (.inr l))), .inr (.inl (u, .inr (.inr k))) => decide (t = u) && decide (l = k)
  | .inr (.inr (c, l)), .inr (.inr (e, k)) => decide (c = e) && decide (l = k)
  | _, _ => false
theorem ab_eqE_ok {e s : ab_E} (h : ab_eqE e s = true) : e = s := by
  unfold ab_eqE at h
  split at h
  · rw [decide_eq_true_eq] at h
    rw [h]
  · rw [Bool.and_eq_true, decide_eq_true_eq, decide_eq_true_eq] at h
    rw [h.1, h.2]
  · rw [Bool.and_eq_true, decide_eq_true_eq, decide_eq_true_eq] at h
    rw [h.1, h.2]
  · rw [Bool.and_eq_true, decide_eq_true_eq, decide_eq_true_eq] at h
    rw [h.1, h.2]
  · rw [Bool.and_eq_true, decide_eq_true_eq, decide_eq_true_eq] at h
    rw [h.1, h.2]
  · cases h
def ab_eqH : List ab_E → List ab_E → Bool
  | [], [] => true
  | e :: h, s :: k => ab_eqE e s && ab_eqH h k
  | _, _ => false
theorem ab_eqH_ok : ∀ {h s : List ab_E}, ab_eqH h s = true → h = s
  | [], [], _ => rfl
  | [], _ :: _, h => by cases h
  | _ :: _, [], h => by cases h
  | e :: h, x :: s, hc => by
    simp only [ab_eqH, Bool.and_eq_true] at hc
    rw [ab_eqE_ok hc.1, ab_eqH_ok hc.2]
def ab_eqR (r : Option (Option Value × List ab_E)) (v : Option Value) (h : List ab_E) : Bool := match r with
  | some (v', h') => decide (v' = v) && ab_eqH h' h
  | none => false
theorem ab_eqR_ok {r : Option (Option Value × List ab_E)} {v : Option Value} {h : List ab_E} (hc : ab_eqR r v h = true) : r = some (v, h) := by
  unfold ab_eqR at hc
  split at hc
  · rw [Bool.and_eq_true, decide_eq_true_eq] at hc
    rw [hc.1, ab_eqH_ok hc.2]
  · cases hc
/-- what is known: a method, its arguments, the heap before; what it gives, the heap behind -/
abbrev ab_K : Type := (Nat × List Value × List ab_E) × (Option Value × List ab_E)
def ab_ask (K : List ab_K) (y : Nat) (As : List Value) (h : List ab_E) : Option (Option Value × List ab_E) := match K with
  | [] => none
  | q :: K => if (decide (q.1.1 = y) && (decide (q.1.2.1 = As) && ab_eqH q.1.2.2 h)) = true then some q.2 else ab_ask K y As h
def ab_known (G : ab_G) (n d : Nat) (K : List ab_K) : Prop := ∀ q ∈ K, ∃ M', ab_gM G q.1.1 = some M' ∧ (lg_sl q.1.2.1).length ≤ ab_mL M' ∧ ab_run G n d M' 0 (lv_args 0 q.1.2.1) [] q.1.2.2 = some q.2
theorem ab_ask_mem {y : Nat} {As : List Value} {h : List ab_E} {r : Option Value × List ab_E} : ∀ {K : List ab_K}, ab_ask K y As h = some r → ((y, As, h), r) ∈ K
  | [], q => by cases q
  | x :: K, q => by
    unfold ab_ask at q
    split at q
    · rename_i e
      cases q
      simp only [Bool.and_eq_true, decide_eq_true_eq] at e
      obtain ⟨e1, e2, e3⟩ := e
      have e3 := ab_eqH_ok e3
      obtain ⟨⟨y1, A1, h1⟩, r1⟩ := x
      dsimp only at e1 e2 e3
      subst e1
      subst e2
      subst e3
      exact List.mem_cons_self
    · exact List.mem_cons_of_mem _ (ab_ask_mem q)
/-- a run that asks first what is known of a callee -/
def ab_rk (G : ab_G) (K : List ab_K) : Nat → ab_MI → Nat → ab_L → List Value → List ab_E → Option (Option Value × List ab_E)
  | 0, _, _, _, _, _ => none
  | n + 1, M, pc, lv, st, h => match decode (ab_mc M) pc with
    | .error _ => none
    | .ok (i, k) => match ab_step G M i k pc lv st h with
      | some (pc', lv', st', h') => ab_rk G K n M pc' lv' st' h'
      | none => match ab_ret (ab_mr M) i k st with
        | some r => some (r, h)
        | none => match ab_obi G (ab_mo M) i k st with
          | some r => ab_rk G K n M (pc + 3) lv r h
          | none => match ab_cpy G (ab_mo M) h i k st with
          | some (r, h') => ab_rk G K n M (pc + 3) lv r h'
          | none => match ab_call G (ab_mo M) h i k st with
            | none => none
            | some (y, As, r) => match ab_ask K y As h with
              | some (v, h') => ab_rk G K n M (pc + 3) lv (v.toList ++ r) h'
              | none => none
set_option maxHeartbeats 4000000 in
theorem ab_rk_ok {G : ab_G} {K : List ab_K} {n0 d0 : Nat} (hK : ab_known G n0 d0 K) : ∀ (n : Nat) (M : ab_MI) (pc : Nat) (lv : ab_L) (st : List Value) (h : List ab_E) (r : Option Value × List ab_E), ab_rk G K n M pc lv st h = some r → ab_run G (n + n0) (d0 + 1) M pc lv st h = some r
  | 0, M, pc, lv, st, h, r, hs => by cases hs
  | n + 1, M, pc, lv, st, h, r, hs => by
    have ih := ab_rk_ok hK n
    rw [show n + 1 + n0 = (n + n0) + 1 by omega]
    unfold ab_rk at hs
    unfold ab_run
    split at hs
    · cases hs
    · rename_i i k hdg
      (try rw [hdg])
      split at hs
      · rename_i pc' lv' st' h' h1
        (try simp only [h1])
        exact ih _ _ _ _ _ _ hs
      · rename_i h1
        (try simp only [h1])
        split at hs
        · rename_i r' h2
          (try simp only [h2])
          exact hs
        · rename_i h2
          (try simp only [h2])
          split at hs
          · rename_i r2 h3
            (try simp only [h3])
            exact ih _ _ _ _ _ _ hs
          · rename_i h3
            (try simp only [h3])
            split at hs
            · rename_i r2 h' h4
              (try simp only [h4])
              exact ih _ _ _ _ _ _ hs
            · rename_i h4
              (try simp only [h4])
              split at hs
              · cases hs
              · rename_i y As rest h5
                (try simp only [h5])
                split at hs
                · rename_i v h' h6
                  obtain ⟨M', g1, g2, g3⟩ := hK _ (ab_ask_mem h6)
                  dsimp only at g1 g2 g3
                  (try simp only [g1, if_pos g2])
                  rw [ab_run_mono _ _ _ _ _ _ _ _ g3 (n + n0) d0 (by omega) (Nat.le_refl _)]
                  exact ih _ _ _ _ _ _ hs
                · cases hs

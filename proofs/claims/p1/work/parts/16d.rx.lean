/-! RUNS THAT MAY THROW, over the pieces of ab_run -/
/-- a table of handlers: from, to, handler, the place in the pool of what is caught (0: all) -/
abbrev ab_H : Type := List (Nat × Nat × Nat × Nat)
abbrev ab_MX : Type := ab_MI × ab_H
/-- tables of throws: what is made and thrown at once (class, place of 'new', place of its constructor: the class's name); names of what is caught; whether objects of a class are of another; methods with handlers -/
abbrev ab_GT : Type := (Nat → Nat → Nat → Option String) × (Nat → Nat → Option String) × (String → String → Option Bool) × (Nat → Option ab_MX)
/-- returned, or thrown (the class, the cell) -/
abbrev ab_RX : Type := Option Value ⊕ (String × Nat)
def ab_mx (G : ab_G) (T : ab_GT) (y : Nat) : Option ab_MX := match T.2.2.2 y with
  | some M => some M
  | none => (ab_gM G y).map (fun M => (M, []))
/-- the handler of what is thrown at pc: some none: none here -/
def ab_hd (T : ab_GT) (o : Nat) (E : String) (pc : Nat) : ab_H → Option (Option Nat)
  | [] => some none
  | (a, b, hp, ct) :: tb => if a ≤ pc ∧ pc < b then (if ct = 0 then some (some hp) else match T.2.1 o ct with
    | none => none
    | some nm => match T.2.2.1 E nm with
      | some true => some (some hp)
      | some false => ab_hd T o E pc tb
      | none => none) else ab_hd T o E pc tb
/-- 'throw new E()' -/
def ab_thr (T : ab_GT) (M : ab_MX) (pc : Nat) : Instr → Nat → Option String
  | .new ik, 3 => match decode (ab_mc M.1) (pc + 3), decode (ab_mc M.1) (pc + 4), decode (ab_mc M.1) (pc + 7) with
    | .ok (.dup, 1), .ok (.invokespecial ic, 3), .ok (.athrow, 1) => if M.2.all (fun z => !(decide (z.1 ≤ pc + 7) && decide (pc + 7 < z.2.1))) = true then T.1 (ab_mo M.1) ik ic else none
    | _, _, _ => none
  | _, _ => none
/-- athrow of an object of a known kind: its class, its place, what is left -/
def ab_ath (G : ab_G) (h : List ab_E) : Instr → Nat → List Value → Option (String × Nat)
  | .athrow, 1, .ref q :: _ => match h[q]? with
    | some (.inr (.inr (ci, _))) => ((ab_gK G)[ci]?).map (fun z => (z.1, q))
    | _ => none
  | _, _, _ => none
def ab_sp : Instr → Bool
  | .invokespecial _ => true
  | _ => false
def ab_rx (G : ab_G) (T : ab_GT) : Nat → Nat → ab_MX → Nat → ab_L → List Value → List ab_E → Option (ab_RX × List ab_E)
  | 0, _, _, _, _, _, _ => none
  | n + 1, d, M, pc, lv, st, h => match decode (ab_mc M.1) pc with
    | .error _ => none
    | .ok (i, k) => match ab_step G M.1 i k pc lv st h with
      | some (pc', lv', st', h') => ab_rx G T n d M pc' lv' st' h'
      | none => match ab_ret (ab_mr M.1) i k st with
        | some r => some (.inl r, h)
        | none => match d with
          | 0 => none
          | d' + 1 => match ab_obi G (ab_mo M.1) i k st with
            | some r => ab_rx G T n (d' + 1) M (pc + 3) lv r h
            | none => match ab_cpy G (ab_mo M.1) h i k st with
            | some (r, h') => ab_rx G T n (d' + 1) M (pc + 3) lv r h'
            | none => match ab_call G (ab_mo M.1) h i k st with
              | some (y, As, r) => match ab_mx G T y with
                | none => none
                | some M' => if (lg_sl As).length ≤ ab_mL M'.1 then match ab_rx G T n d' M' 0 (lv_args 0 As) [] h with
                  | none => none
                  | some (.inl v, h') => ab_rx G T n (d' + 1) M (pc + 3) lv (v.toList ++ r) h'
                  | some (.inr (E, q), h') => if ab_sp i = true then none else match ab_hd T (ab_mo M.1) E pc M.2 with
                    | some (some hp) => ab_rx G T n (d' + 1) M hp lv [.ref q] h'
                    | some none => some (.inr (E, q), h')
                    | none => none
                  else none
              | none => match ab_ath G h i k st with
                | some (E, q) => match ab_hd T (ab_mo M.1) E pc M.2 with
                  | some (some hp) => ab_rx G T n (d' + 1) M hp lv [.ref q] h
                  | some none => some (.inr (E, q), h)
                  | none => none
                | none => match ab_thr T M pc i k with
                  | some cls => if 8 ≤ d' ∧ ab_cat st ≤ 8 then some (.inr (cls, h.length), h ++ [.inl 6]) else none
                  | none => none
theorem ab_rx_z {G : ab_G} {T : ab_GT} : ∀ (n d : Nat) (M : ab_MX) (pc : Nat) (lv : ab_L) (st : List Value) (h h' : List ab_E) (r : ab_RX), ab_rx G T n d M pc lv st h = some (r, h') → h.length ≤ h'.length ∧ ab_z h ≤ ab_z h'
  | 0, d, M, pc, lv, st, h, h', r, hs => by cases hs
  | n + 1, d, M, pc, lv, st, h, h', r, hs => by
    unfold ab_rx at hs
    split at hs
    · cases hs
    · split at hs
      · rename_i h1
        have a1 := ab_step_z h1
        have a2 := ab_rx_z n _ _ _ _ _ _ _ _ hs
        omega
      · split at hs
        · cases hs
          exact ⟨Nat.le_refl _, Nat.le_refl _⟩
        · split at hs
          · cases hs
          · split at hs
            · exact ab_rx_z n _ _ _ _ _ _ _ _ hs
            · split at hs
              · rename_i h1
                have a1 := ab_cpy_z h1
                have a2 := ab_rx_z n _ _ _ _ _ _ _ _ hs
                omega
              · split at hs
                · split at hs
                  · cases hs
                  · split at hs
                    · split at hs
                      · cases hs
                      · rename_i h1
                        have a1 := ab_rx_z n _ _ _ _ _ _ _ _ h1
                        have a2 := ab_rx_z n _ _ _ _ _ _ _ _ hs
                        omega
                      · rename_i h1
                        have a1 := ab_rx_z n _ _ _ _ _ _ _ _ h1
                        split at hs
                        · cases hs
                        · split at hs
                          · have a2 := ab_rx_z n _ _ _ _ _ _ _ _ hs
                            omega
                          · cases hs
                            exact a1
                          · cases hs
                    · cases hs
                · split at hs
                  · split at hs
                    · exact ab_rx_z n _ _ _ _ _ _ _ _ hs
                    · cases hs
                      exact ⟨Nat.le_refl _, Nat.le_refl _⟩
                    · cases hs
                  · split at hs
                    · split at hs
                      · cases hs
                        rw [ab_z_app, List.length_append]
                        exact ⟨Nat.le_add_right _ _, Nat.le_add_right _ _⟩
                      · cases hs
                    · cases hs
/-- what a run says that doesn't throw, this says too -/
theorem ab_rx_of {G : ab_G} {T : ab_GT} (hT : ∀ (y : Nat) (M : ab_MI), ab_gM G y = some M → T.2.2.2 y = none) : ∀ (n d : Nat) (M : ab_MI) (pc : Nat) (lv : ab_L) (st : List Value) (h h' : List ab_E) (r : Option Value) (tb : ab_H), ab_run G n d M pc lv st h = some (r, h') → ab_rx G T n d (M, tb) pc lv st h = some (.inl r, h')
  | 0, d, M, pc, lv, st, h, h', r, tb, hs => by cases hs
  | n + 1, d, M, pc, lv, st, h, h', r, tb, hs => by
    unfold ab_run at hs
    unfold ab_rx
    split at hs
    · cases hs
    · rename_i i k hdg
      rw [hdg]
      dsimp only
      split at hs
      · rename_i h1
        rw [h1]
        exact ab_rx_of hT n _ _ _ _ _ _ _ _ _ hs
      · rename_i h1
        rw [h1]
        dsimp only
        split at hs
        · rename_i h2
          rw [h2]
          cases hs
          rfl
        · rename_i h2
          rw [h2]
          dsimp only
          split at hs
          · cases hs
          · dsimp only
            split at hs
            · rename_i h3
              rw [h3]
              exact ab_rx_of hT n _ _ _ _ _ _ _ _ _ hs
            · rename_i h3
              rw [h3]
              dsimp only
              split at hs
              · rename_i h4
                rw [h4]
                exact ab_rx_of hT n _ _ _ _ _ _ _ _ _ hs
              · rename_i h4
                rw [h4]
                dsimp only
                split at hs
                · cases hs
                · rename_i y5 As5 r5 h5
                  rw [h5]
                  dsimp only
                  split at hs
                  · cases hs
                  · rename_i M' hM'
                    have e1 : ab_mx G T y5 = some (M', []) := by
                      unfold ab_mx
                      rw [hT _ _ hM', hM']
                      rfl
                    rw [e1]
                    dsimp only
                    split at hs
                    · rename_i hl
                      rw [if_pos hl]
                      split at hs
                      · cases hs
                      · rename_i h6
                        rw [ab_rx_of hT n _ _ _ _ _ _ _ _ [] h6]
                        exact ab_rx_of hT n _ _ _ _ _ _ _ _ _ hs
                    · cases hs

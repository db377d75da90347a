/-! more rules for printed programs: arrays, guards -/
/-- a number that fits a narrow type -/
def nar (ty : FieldType) (x : Int32) : Option Int32 := if narrow ty (.int x) = .int x ∧ fits ty (.int x) = true then some x else none
theorem nar_n {ty : FieldType} {x y : Int32} (q : nar ty x = some y) : narrow ty (.int x) = .int x := by
  unfold nar at q
  split at q
  · rename_i e
    exact e.1
  · cases q
theorem nar_f {ty : FieldType} {x y : Int32} (q : nar ty x = some y) : fits ty (ab_un (.int x)) = true := by
  unfold nar at q
  split at q
  · rename_i e
    exact e.2
  · cases q
theorem nar_z {x y : Int32} (q : nar .boolean x = some y) : ab_ret (some .boolean) .ireturn 1 [.int x] = some (some (.int x)) := by
  show (if narrow .boolean (.int x) = .int x then some (some (Value.int x)) else none) = _
  rw [if_pos (nar_n q)]
theorem ret_A {v : Value} {s : String} (f : oR v = some v) : ab_ret (some (.object s)) .areturn 1 [v] = some (some v) := by
  cases v <;> first | rfl | (cases f; done)
theorem ret_B {v : Value} {ty : FieldType} (f : oR v = some v) : ab_ret (some (.array ty)) .areturn 1 [v] = some (some v) := by
  cases v <;> first | rfl | (cases f; done)
section RU2
variable {z : Option Value × Option Value × Option Value} {x0 : Nat × Nat × (Nat → Value)} {T : ab_GT} {d : Nat} {M : ab_MX} {pc : Nat} {lv : ab_L} {h : List ab_E} {Q : ab_RX → List ab_E → Prop}
theorem ab_fin.aI {pc' : Nat} {v : Value} {i x : Int32} {r : List Value} (hd : decode (ab_mc M.1) pc = .ok (.iaload, 1)) (q : a_I h v i = some x) (hp : pc + 1 = pc') (e : ab_fin (hb_Gz z (some x0)) T d M pc' lv (.int x :: r) h Q) : ab_fin (hb_Gz z (some x0)) T d M pc lv (.int i :: v :: r) h Q := by
  unfold a_I at q
  split at q
  · obtain ⟨l, h1, h2⟩ := Option.bind_eq_some_iff.mp q
    split at h2
    · cases h2
    · rename_i hi
      cases h2
      exact ab_fin.iald hd (ab_arI_eq h1) hi rfl hp e
  · rename_i j
    obtain ⟨w, h1, h2⟩ := Option.bind_eq_some_iff.mp q
    have hw := oI_some h2
    subst hw
    unfold xI at h1
    obtain ⟨q1, h3, h4⟩ := Option.bind_eq_some_iff.mp h1
    split at h4
    · rename_i hc
      refine ab_fin.s8 (st' := .int x :: r) hd ?_ rfl rfl hp e
      have h5 := hb_amono (x := x0) _ _ h3
      show ((hb_Xa (some x0) j).bind fun q => if q.1 = 0 ∧ ¬ (i < 0 ∨ q.2.1 ≤ i.toNatClampNeg) then some (q.2.2 i.toNatClampNeg :: r) else none) = _
      rw [h5]
      simp only [Option.bind_some, if_pos hc]
      rw [Option.some.inj h4]
    · cases h4
  · cases q
theorem ab_fin.aL {pc' : Nat} {v : Value} {i : Int32} {x : Int64} {r : List Value} (hd : decode (ab_mc M.1) pc = .ok (.laload, 1)) (q : a_L h v i = some x) (hv : ∃ a, v = .ref a) (hp : pc + 1 = pc') (e : ab_fin (hb_Gz z (some x0)) T d M pc' lv (.long x :: r) h Q) : ab_fin (hb_Gz z (some x0)) T d M pc lv (.int i :: v :: r) h Q := by
  obtain ⟨a, rfl⟩ := hv
  obtain ⟨l, h1, h2⟩ := Option.bind_eq_some_iff.mp q
  split at h2
  · cases h2
  · rename_i hi
    cases h2
    exact ab_fin.lald hd (ab_arL_eq h1) hi rfl hp e
theorem ab_fin.wI {pc' : Nat} {v : Value} {i x : Int32} {r : List Value} {h1 : List ab_E} (hd : decode (ab_mc M.1) pc = .ok (.iastore, 1)) (q : w_I h v i x = some h1) (hp : pc + 1 = pc') (e : ab_fin (hb_Gz z (some x0)) T d M pc' lv r h1 Q) : ab_fin (hb_Gz z (some x0)) T d M pc lv (.int x :: .int i :: v :: r) h Q := by
  unfold w_I at q
  split at q
  · obtain ⟨l, h1, h2⟩ := Option.bind_eq_some_iff.mp q
    split at h2
    · cases h2
    · rename_i hi
      cases h2
      exact ab_fin.iast hd (ab_arI_eq h1) hi rfl hp e
  · cases q
theorem ab_fin.wL {pc' : Nat} {v : Value} {i : Int32} {x : Int64} {r : List Value} {h1 : List ab_E} (hd : decode (ab_mc M.1) pc = .ok (.lastore, 1)) (q : w_L h v i x = some h1) (hp : pc + 1 = pc') (e : ab_fin (hb_Gz z (some x0)) T d M pc' lv r h1 Q) : ab_fin (hb_Gz z (some x0)) T d M pc lv (.long x :: .int i :: v :: r) h Q := by
  unfold w_L at q
  split at q
  · obtain ⟨l, h1, h2⟩ := Option.bind_eq_some_iff.mp q
    split at h2
    · cases h2
    · rename_i hi
      cases h2
      exact ab_fin.last hd (ab_arL_eq h1) hi rfl hp e
  · cases q
end RU2
/-- a loop: a body that goes on (.inl) or ends (.inr), done as often as the fuel lets -/
def lpH {C E : Type} (B : C → List ab_E → Option ((C ⊕ E) × List ab_E)) : Nat → C → List ab_E → Option (E × List ab_E)
  | 0, _, _ => none
  | n + 1, c, h => match B c h with
    | some (.inl c', h') => lpH B n c' h'
    | some (.inr e, h') => some (e, h')
    | none => none
/-- what a body does step by step, the loop does -/
theorem lpH_ok {C E : Type} {B : C → List ab_E → Option ((C ⊕ E) × List ab_E)} {P : C → List ab_E → Prop} {K : E → List ab_E → Prop} (hB : ∀ c h s h', B c h = some (s, h') → (match s with | .inl c' => P c' h' | .inr e => K e h') → P c h) : ∀ (n : Nat) (c : C) (h : List ab_E) (e : E) (h' : List ab_E), lpH B n c h = some (e, h') → K e h' → P c h
  | 0, c, h, e, h', q, _ => by cases q
  | n + 1, c, h, e, h', q, k => by
    unfold lpH at q
    split at q
    · rename_i c1 h1 e1
      exact hB _ _ _ _ e1 (lpH_ok hB n _ _ _ _ q k)
    · rename_i e2 h1 e1
      cases q
      exact hB _ _ _ _ e1 k
    · cases q
def lpP {C E : Type} (B : C → Option (C ⊕ E)) : Nat → C → Option E
  | 0, _ => none
  | n + 1, c => match B c with
    | some (.inl c') => lpP B n c'
    | some (.inr e) => some e
    | none => none
theorem lpP_ok {C E : Type} {B : C → Option (C ⊕ E)} {P : C → Prop} {K : E → Prop} (hB : ∀ c s, B c = some s → (match s with | .inl c' => P c' | .inr e => K e) → P c) : ∀ (n : Nat) (c : C) (e : E), lpP B n c = some e → K e → P c
  | 0, c, e, q, _ => by cases q
  | n + 1, c, e, q, k => by
    unfold lpP at q
    split at q
    · rename_i c1 e1
      exact hB _ _ e1 (lpP_ok hB n _ _ q k)
    · rename_i e2 e1
      cases q
      exact hB _ _ e1 k
    · cases q

/-! THE CLASS: SPECs, what is broken on both sides -/
/-- nothing is broken, or the same first thing, before p -/
def EqB (p : Nat) (E E' : Evs) : Prop := (E = [] ∧ E' = []) ∨ ∃ v, lsE E = some v ∧ lsE E' = some v ∧ v.1 < p
theorem eqb_set {a b p : Nat} {E E' : Evs} (h : ∀ e, e ∈ E ↔ e ∈ E') (hi : In a b E) (hp : b ≤ p) : EqB p E E' := by
  by_cases y : E = []
  · refine Or.inl ⟨y, ?_⟩
    exact nil_set (fun e => (h e).symm) y
  · obtain ⟨v, hv⟩ := lsE_some y
    refine Or.inr ⟨v, hv, by rw [← lsE_set h]; exact hv, ?_⟩
    have := hi v (lsE_mem E v hv)
    omega
theorem EqB.later {p p' b : Nat} {E E' F F' : Evs} (h : EqB p E E') (hE : E ≠ []) (hF : In p b F) (hF' : In p b F') (hp : p ≤ p') : EqB p' (E ++ F) (E' ++ F') := by
  rcases h with ⟨h, -⟩ | ⟨v, v1, v2, v3⟩
  · exact absurd h hE
  · exact Or.inr ⟨v, lsE_later v1 (fun e he => by have := hF e he; omega), lsE_later v2 (fun e he => by have := hF' e he; omega), by omega⟩
theorem EqB.wk {p p' : Nat} {E E' : Evs} (h : EqB p E E') (hp : p ≤ p') : EqB p' E E' := by
  rcases h with h | ⟨v, v1, v2, v3⟩
  · exact Or.inl h
  · exact Or.inr ⟨v, v1, v2, by omega⟩
theorem EqB.nil {p : Nat} {E E' : Evs} (h : EqB p E E') : E = [] ↔ E' = [] := by
  rcases h with ⟨h1, h2⟩ | ⟨v, v1, v2, -⟩
  · exact ⟨fun _ => h2, fun _ => h1⟩
  · constructor
    · intro z
      rw [z] at v1
      cases v1
    · intro z
      rw [z] at v2
      cases v2
theorem EqB.ls {p : Nat} {E E' : Evs} (h : EqB p E E') : lsE E = lsE E' := by
  rcases h with ⟨h1, h2⟩ | ⟨v, v1, v2, -⟩
  · rw [h1, h2]
  · rw [v1, v2]
section SPP
variable {t : Nat → Int32} {n : Nat} {env : Env} {vs vs' : List (List Int32)}
theorem s1_in {p p2 : Nat} {e1 e2 : Evs} {s : Spc} (h : pS1 t n env vs p = .inr (p2, e1, e2, s)) : p < p2 ∧ In p p2 (e1 ++ e2) ∧ tyS t n p = 2 := by
  unfold pS1 at h
  by_cases z : tyS t n p = 2
  · rw [if_pos z] at h
    have hx := nx_le (t := t) (n := n) (p := p) (by omega)
    cases h1 : pSk t n env (nxS t n p) with
    | inl q =>
      rw [h1] at h
      cases h
    | inr x =>
      obtain ⟨p1, es1, kd⟩ := x
      rw [h1] at h
      dsimp only at h
      cases h2 : pSq t n p1 with
      | inl q =>
        rw [h2] at h
        cases h
      | inr y =>
        obtain ⟨p3, hs, v⟩ := y
        rw [h2] at h
        have h := Sum.inr.inj h
        have a1 : p3 = p2 := congrArg Prod.fst h
        have a2 : (if lstI vs (nmS t n p) = none then [] else [(p, 2)]) = e1 := congrArg (fun x => x.2.1) h
        have a3 : es1 = e2 := congrArg (fun x => x.2.2.1) h
        subst a1 a3
        have k1 : nxS t n p ≤ p1 ∧ In (nxS t n p) p1 es1 := by
          unfold pSk at h1
          by_cases z8 : tyS t n (nxS t n p) = 8
          · rw [if_pos z8] at h1
            have hx2 := nx_le (t := t) (n := n) (p := nxS t n p) (by omega)
            by_cases z2 : tyS t n (nxS t n (nxS t n p)) = 2
            · rw [if_pos z2] at h1
              have hx3 := nx_le (t := t) (n := n) (p := nxS t n (nxS t n p)) (by omega)
              have h1 := Sum.inr.inj h1
              have b1 : nxS t n (nxS t n (nxS t n p)) = p1 := congrArg Prod.fst h1
              have b2 := congrArg (fun x => x.2.1) h1
              dsimp only at b2
              rw [← b2, ← b1]
              exact ⟨by omega, in_ife (by omega) (by omega)⟩
            · rw [if_neg z2] at h1
              cases h1
          · rw [if_neg z8] at h1
            have h1 := Sum.inr.inj h1
            have b1 : nxS t n p = p1 := congrArg Prod.fst h1
            have b2 : [] = es1 := congrArg (fun x => x.2.1) h1
            rw [← b2, ← b1]
            exact ⟨Nat.le_refl _, fun e he => by cases he⟩
        have k2 : p1 ≤ p3 := by
          unfold pSq at h2
          by_cases z16 : tyS t n p1 = 16
          · rw [if_pos z16] at h2
            have hx2 := nx_le (t := t) (n := n) (p := p1) (by omega)
            cases h3 : pSg t n (nxS t n p1) with
            | inl q =>
              rw [h3] at h2
              cases h2
            | inr y =>
              obtain ⟨y1, y2⟩ := y
              rw [h3] at h2
              have b1 : y2 = p3 := congrArg Prod.fst (Sum.inr.inj h2)
              have : nxS t n p1 ≤ y2 := by
                unfold pSg at h3
                split at h3
                · split at h3
                  · have c1 := nx_le (t := t) (n := n) (p := nxS t n p1) (by omega)
                    have c2 := nx_le (t := t) (n := n) (p := nxS t n (nxS t n p1)) (by omega)
                    have := congrArg Prod.snd (Sum.inr.inj h3)
                    dsimp only at this
                    omega
                  · cases h3
                · split at h3
                  · have c1 := nx_le (t := t) (n := n) (p := nxS t n p1) (by omega)
                    have := congrArg Prod.snd (Sum.inr.inj h3)
                    dsimp only at this
                    omega
                  · cases h3
              omega
          · rw [if_neg z16] at h2
            have b1 : p1 = p3 := congrArg Prod.fst (Sum.inr.inj h2)
            omega
        refine ⟨by omega, in_app ?_ (k1.2.wk (by omega) (by omega)), z⟩
        rw [← a2]
        by_cases zl : lstI vs (nmS t n p) = none
        · rw [if_pos zl]
          intro e he
          cases he
        · rw [if_neg zl]
          exact in_one (Nat.le_refl _) (by omega)
  · rw [if_neg z] at h
    cases h
/-- one SPEC of a row of SPECs -/
theorem sp_step {places f p k : Nat} {esP : Evs} {acc : List Spc} : pSp t n env places (f + 1) p k vs' esP acc = match pS1 t n env vs p with
    | .inl q => .inl q
    | .inr (p2, _, es1, s) => if tyS t n p2 = 6 then pSp t n env places f (nxS t n p2) (k + 1) (if vs'.length < 3 then vs' ++ [nmS t n p] else vs') (esP ++ (if 0 < places ∧ k = places then [(p, 4)] else []) ++ dupK vs' (nmS t n p) p vs'.length ++ es1) (if k < 3 then acc ++ [s] else acc)
      else if tyS t n p2 = 5 then .inr (nxS t n p2, (if vs'.length < 3 then vs' ++ [nmS t n p] else vs'), esP ++ (if 0 < places ∧ k = places then [(p, 4)] else []) ++ dupK vs' (nmS t n p) p vs'.length ++ es1 ++ (if 0 < places ∧ k + 1 < places then [(p2, 4)] else []), (if k < 3 then acc ++ [s] else acc))
      else .inl p2 := by
  rw [pSp]
  unfold pS1
  by_cases z : tyS t n p = 2
  · rw [if_pos z, if_pos z]
    cases pSk t n env (nxS t n p) with
    | inl q => rfl
    | inr x =>
      obtain ⟨p1, es1, kd⟩ := x
      dsimp only
      cases pSq t n p1 with
      | inl q => rfl
      | inr y => rfl
  · rw [if_neg z, if_neg z]
theorem dup_set {nm : List Int32} {p : Nat} (e : Nat × Nat) : e ∈ (if lstI vs nm = none then [] else [(p, 2)] : Evs) ↔ e ∈ dupK vs nm p vs.length := by
  have key : (∃ j, j < vs.length ∧ vs[j]? = some nm) ↔ lstI vs nm ≠ none := by
    constructor
    · intro ⟨j, h1, h2⟩ q
      have q := List.getLast?_eq_none_iff.mp q
      have : j ∈ (List.range vs.length).filter fun j => decide (vs[j]? = some nm) := List.mem_filter.mpr ⟨List.mem_range.mpr h1, decide_eq_true h2⟩
      rw [q] at this
      cases this
    · intro q
      cases hl : lstI vs nm with
      | none => exact absurd hl q
      | some j =>
        have := List.mem_of_getLast? hl
        obtain ⟨h1, h2⟩ := List.mem_filter.mp this
        exact ⟨j, List.mem_range.mp h1, of_decide_eq_true h2⟩
  unfold dupK
  rw [List.mem_map]
  constructor
  · intro h
    by_cases z : lstI vs nm = none
    · rw [if_pos z] at h
      cases h
    · rw [if_neg z] at h
      obtain ⟨j, h1, h2⟩ := key.mpr z
      exact ⟨j, List.mem_filter.mpr ⟨List.mem_range.mpr h1, decide_eq_true h2⟩, (List.mem_singleton.mp h).symm⟩
  · intro ⟨j, h1, h2⟩
    obtain ⟨h3, h4⟩ := List.mem_filter.mp h1
    have z : lstI vs nm ≠ none := key.mp ⟨j, List.mem_range.mp h3, of_decide_eq_true h4⟩
    rw [if_neg z, h2]
    exact List.mem_cons_self
end SPP

/-! THE CLASS: a SPEC read -/
section SPC
variable (t : Nat → Int32) (n : Nat) (env : Env) (vs : List (List Int32))
/-- one SPEC: where it ends, what it breaks, what it says -/
def pS1 (p : Nat) : Nat ⊕ (Nat × Evs × Evs × Spc) :=
  if tyS t n p = 2 then (match pSk t n env (nxS t n p) with
    | .inl q => .inl q
    | .inr (p1, es1, kd) => match pSq t n p1 with
      | .inl q => .inl q
      | .inr (p2, hs, v) => .inr (p2, (if lstI vs (nmS t n p) = none then [] else [(p, 2)]), es1, (kd, hs, v)))
  else .inl p
def hs1 (R : HR) : HR := hbd R fun p es => match pS1 t n env vs p with
  | .inl q => .inl q
  | .inr (p2, e1, e2, _) => .inr (p2, es ++ e1 ++ e2)
end SPC
def SpF (m : Nat) (σ τ : Sg) : Prop := τ.sh = σ.sh ∧ τ.r = σ.r ∧ (∀ a j, ¬ (a = 40 ∧ 3 ≤ j ∧ j ≤ 6) → ¬ (a = 28 ∧ j = 3) → ¬ ((a = 15 ∨ a = 16 ∨ a = 17) ∧ j / 3 = m) → τ.i a j = σ.i a j) ∧ ∀ a j, ¬ ((a = 29 ∨ a = 30) ∧ 56 ≤ j) → τ.l a j = σ.l a j
section SP2
variable {Z : zT} {d : Nat} {t : Nat → Int32} {n N m : Nat} {B : Nat × Nat × Nat × Nat × Nat} {C : Nat × Nat × Nat × Nat} {W : Wld} {σ τ υ : Sg} {K : kS} {vs : List (List Int32)} {R : HR}
theorem SpF.refl (m : Nat) (σ : Sg) : SpF m σ σ := ⟨rfl, rfl, fun _ _ _ _ _ => rfl, fun _ _ _ => rfl⟩
theorem SpF.tr (h : SpF m σ τ) (g : SpF m τ υ) : SpF m σ υ := ⟨g.1.trans h.1, g.2.1.trans h.2.1, fun a j q1 q2 q3 => (g.2.2.1 a j q1 q2 q3).trans (h.2.2.1 a j q1 q2 q3), fun a j q => (g.2.2.2 a j q).trans (h.2.2.2 a j q)⟩
theorem HdF.sp (m : Nat) (h : HdF σ τ) : SpF m σ τ := ⟨h.1, h.2.1, fun a j q1 q2 _ => h.2.2.1 a j q1 q2, h.2.2.2⟩
theorem SpF.md (h : SpF m σ τ) : MdF m σ τ := ⟨h.1, h.2.1, fun a j q => h.2.2.1 a j (fun z => q (by unfold mdI; omega)) (fun z => q (by unfold mdI; omega)) (fun z => q (by unfold mdI; omega)), fun a j q => h.2.2.2 a j (fun z => q (Or.inl z))⟩
theorem SpF.wi {a j : Nat} {v : Int32} (h : (a = 15 ∨ a = 16 ∨ a = 17) ∧ j / 3 = m) : SpF m σ (σ.wi a j v) := ⟨rfl, rfl, fun b i _ _ q => wi_ne (fun z => q (by rw [z.1, z.2]; exact h)), fun _ _ _ => rfl⟩
theorem HB.sp (h : HB t n N B C W σ) (g : SpF m σ τ) (hC : C.2.1 = 25 ∨ 102 ≤ C.2.1) : HB t n N B C W τ := h.md g.md hC
/-- the last part: == NUMBER -/
theorem sp_124 {k : Nat} {l2 : Int32} (hm : m < 122) (hk : k < 3) (hl : l2 = Int32.ofNat k ∨ l2 = -1) (hB : HB t n N B C W σ) (hC : C.2.1 = 25 ∨ 102 ≤ C.2.1) (h : BdS t n N vs R σ) (kk : ∀ τ R', (∀ q, R = .inl q → R' = .inl q) → (∀ p es, R = .inr (p, es) → R' = match pSq t n p with
    | .inl q => .inl q
    | .inr (p2, _, _) => .inr (p2, es)) → SpF m σ τ → (l2 = -1 → ∀ a j, a = 15 ∨ a = 16 ∨ a = 17 → τ.i a j = σ.i a j) → (∀ a j, (a = 15 ∨ a = 16 ∨ a = 17) → ¬ ((a = 16 ∨ a = 17) ∧ j = 3 * m + k) → τ.i a j = σ.i a j) → (l2 = Int32.ofNat k → ∀ p es p2 hs v, R = .inr (p, es) → pSq t n p = .inr (p2, hs, v) → σ.i 16 (3 * m + k) = 0 → σ.i 17 (3 * m + k) = 0 → τ.i 16 (3 * m + k) = (if hs = true then 1 else 0) ∧ τ.i 17 (3 * m + k) = (if hs = true then Int32.ofInt v else 0)) → BdS t n N vs R' τ → K (.inl none) τ) : C_X7_readSpec_124 Z (d + 3) σ (Int32.ofNat m) l2 K := by
  have tb := hsg_b (t := t) (n := n) R
  refine T_X7_readSpec_124 hB.1 (h_sign hB h ?_)
  show (¬ Int32.ofNat (hsg t n R) = Int32.ofNat 16 → _) ∧ (Int32.ofNat (hsg t n R) = Int32.ofNat 16 → _)
  rw [oN_eq (by omega) (by decide)]
  refine ⟨fun z => ?_, fun z => ?_⟩
  · refine kk σ R (fun q e => e) (fun p es e => ?_) (SpF.refl _ _) (fun _ _ _ _ => rfl) (fun _ _ _ _ => rfl) (fun _ p es p2 hs v e e2 h16 h17 => ?_) h
    · subst e
      have z : ¬ tyS t n p = 16 := z
      unfold pSq
      rw [if_neg z]
    · subst e
      have z : ¬ tyS t n p = 16 := z
      unfold pSq at e2
      rw [if_neg z] at e2
      have e2 := congrArg Prod.snd (Sum.inr.inj e2)
      have e3 : false = hs := congrArg Prod.fst e2
      rw [← e3]
      exact ⟨h16, h17⟩
  · rcases R with q | ⟨p, es⟩
    · cases z
    · have z : tyS t n p = 16 := z
      refine h_take (y := 16) (by decide) hB h (fun τ1 f1 b1 => ?_)
      have e1 : htk t n 16 (.inr (p, es)) = .inr (nxS t n p, es) := if_pos z
      rw [e1] at b1
      have hB1 := hB.hd f1
      refine h_number hB1 b1 (fun τ2 v hv f2 b2 => ?_)
      have fr : HdF σ τ2 := f1.tr f2
      have eR : hnu t n (.inr (nxS t n p, es)) = match pSq t n p with
          | .inl q => .inl q
          | .inr (p2, _, _) => .inr (p2, es) := by
        unfold pSq hnu hbd
        rw [if_pos z]
        dsimp only
        cases pSg t n (nxS t n p) with
        | inl q => rfl
        | inr x => rfl
      have vv : ∀ p2 hs u, pSq t n p = .inr (p2, hs, u) → hs = true ∧ v = Int32.ofInt u := fun p2 hs u e => by
        unfold pSq at e
        rw [if_pos z] at e
        cases hb : pSg t n (nxS t n p) with
        | inl q =>
          rw [hb] at e
          cases e
        | inr x =>
          obtain ⟨x1, x2⟩ := x
          rw [hb] at e
          have e := congrArg Prod.snd (Sum.inr.inj e)
          have e3 : true = hs := congrArg Prod.fst e
          have e4 : x1 = u := congrArg Prod.snd e
          exact ⟨e3.symm, by rw [← e4]; exact hv _ _ rfl x1 x2 hb⟩
      have gi : ∀ a j, a = 15 ∨ a = 16 ∨ a = 17 → τ2.i a j = σ.i a j := fun a j q => fr.2.2.1 a j (by omega) (by omega)
      have ne : Int32.ofNat k ≠ -1 := fun y => by
        have := congrArg Int32.toInt y
        rw [oN_i (by omega)] at this
        have : (k : Int) = -1 := this
        omega
      rcases hl with hl | hl
      · subst hl
        show (Int32.ofNat k < 0 → _) ∧ (¬ Int32.ofNat k < 0 → _)
        rw [show (0 : Int32) = Int32.ofNat 0 from rfl, oN_lt (by omega) (by decide), show (3 : Int32) = Int32.ofNat 3 from rfl, oN_mul, oN_add, oN_t (by omega), show m * 3 + k = 3 * m + k by omega]
        refine ⟨fun q => absurd q (by omega), fun _ => ⟨ib_oN (by omega) (by omega), ib_oN (by omega) (by omega), ?_⟩⟩
        show K (.inl none) ((τ2.wi 16 (3 * m + k) 1).wi 17 (3 * m + k) v)
        refine kk _ _ (fun q e => by cases e) (fun p' es' e => ?_) ((fr.sp m).tr ((SpF.wi ⟨Or.inr (Or.inl rfl), by omega⟩).tr (SpF.wi ⟨Or.inr (Or.inr rfl), by omega⟩))) (fun q => absurd q ne) (fun a j q1 q2 => (wi_ne (by omega)).trans ((wi_ne (by omega)).trans (gi a j q1))) (fun _ p' es' p2 hs u e e2 _ _ => ?_) ((b2.wi (by decide) (by decide)).wi (by decide) (by decide))
        · cases e
          exact eR
        · cases e
          obtain ⟨g1, g2⟩ := vv p2 hs u e2
          rw [g1, g2]
          exact ⟨(wi_ne (by omega)).trans wi_eq, wi_eq⟩
      · subst hl
        refine ⟨fun _ => ?_, fun q => absurd (by decide) q⟩
        refine kk τ2 _ (fun q e => by cases e) (fun p' es' e => ?_) (fr.sp m) (fun _ a j q => gi a j q) (fun a j q _ => gi a j q) (fun q => absurd q.symm ne) b2
        cases e
        exact eR
end SP2

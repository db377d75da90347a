/-! THE CLASS: a SPEC read, from its name on -/
section SP4
variable {Z : zT} {d : Nat} {t : Nat → Int32} {n N m : Nat} {B : Nat × Nat × Nat × Nat × Nat} {C : Nat × Nat × Nat × Nat} {W : Wld} {σ τ υ : Sg} {K : kS} {vs : List (List Int32)} {R : HR}
def hnd (t : Nat → Int32) (n : Nat) (vs : List (List Int32)) (R : HR) : HR := hbd R fun p es => if tyS t n p = 2 then .inr (nxS t n p, es ++ (if lstI vs (nmS t n p) = none then [] else [(p, 2)])) else .inl p
theorem hs1_eq {env : Env} : hs1 t n env vs R = hsk t n env (hnd t n vs R) := by
  rcases R with q | ⟨p, es⟩
  · rfl
  · unfold hs1 hnd hsk hbd pS1
    dsimp only
    by_cases z : tyS t n p = 2
    · rw [if_pos z, if_pos z]
      dsimp only
      cases pSk t n env (nxS t n p) with
      | inl q => rfl
      | inr x =>
        obtain ⟨p1, es1, kd⟩ := x
        dsimp only
        cases pSq t n p1 with
        | inl q => rfl
        | inr y => rfl
    · rw [if_neg z, if_neg z]
theorem nm_ne {p : Nat} (h : tyS t n p = 2) : nmS t n p ≠ [] := by
  rcases ty_or t n p with q | q | q | q | ⟨_, _, _, q⟩ | ⟨_, _, _, _, q⟩
  · omega
  · omega
  · intro e
    have l := skN_gt q.2.2.1 q.2.2.2.1
    have : (nmS t n p).length = lnS t n p := by
      unfold nmS txN
      simp
    rw [e] at this
    unfold lnS at this
    have : 0 = skN t n (n - p) p - p := this
    omega
  · omega
  · rcases q with q | ⟨q, q1, q2, q3⟩
    · omega
    · have := (mkL2_c q q1).2.1
      omega
  · rcases q with q | ⟨q, q1, q2, q3⟩
    · omega
    · have := (wdL_c q q1).2.1
      omega
/-- the name is known now -/
theorem sp_45 {k i : Nat} {l2 : Int32} {w : Int} {nm : List Int32} (hm : m < 122) (hk : k < 3) (hl : l2 = Int32.ofNat k ∨ l2 = -1) (hi : i ≤ N) (hv : vs.length ≤ 3) (hB : HB t n N B C W σ) (hC : C.2.1 = 25 ∨ 102 ≤ C.2.1) (h : BdS t n N vs R σ) (hab : ∀ p es, R = .inr (p, es) → hdS t n (sgP t n i) = nmH nm ∧ tlS t n (sgP t n i) = nmT nm ∧ (nm.length ≤ 16 ∧ ∀ c ∈ nm, nmC c)) (kk : ∀ τ vs', SpF m σ τ → (l2 = -1 → ∀ a j, a = 15 ∨ a = 16 ∨ a = 17 → τ.i a j = σ.i a j) → (∀ a j, (a = 15 ∨ a = 16 ∨ a = 17) → j ≠ 3 * m + k → τ.i a j = σ.i a j) → (l2 = Int32.ofNat k → ∀ p es p1 p2 kd hs v, R = .inr (p, es) → pSk t n (enW W.1 W.2.1 W.2.2.1 w) p = .inr (p1, [], kd) → pSq t n p1 = .inr (p2, hs, v) → SpC σ m k (0, false, 0) → SpC τ m k (kd, hs, v)) → (l2 = -1 → vs' = vs) → (l2 = Int32.ofNat k → vs' = vs ++ [nm]) → BdS t n N vs' (hsk t n (enW W.1 W.2.1 W.2.2.1 w) R) τ → K (.inl none) τ) : C_X7_readSpec_45 Z (d + 3) σ (Int32.ofNat m) l2 (Int32.ofNat i) K := by
  have hB' := hB
  obtain ⟨fx, sa, ss, ⟨nn, hN1⟩, -⟩ := hB'
  have hc := sa.2.2.2.2.2.2.2.2.2
  have ne := ofN_m1 hk
  refine T_X7_readSpec_45 fx ?_
  rcases hl with hl | hl
  · subst hl
    rw [show (0 : Int32) = Int32.ofNat 0 from rfl, oN_lt (by omega) (by decide)]
    refine ⟨fun q => absurd q (by omega), fun _ => ⟨_, sa.2.2.1.1, _, sa.2.2.1.2, ib_oN (by omega) (by omega), _, sa.2.2.2.1.1, _, sa.2.2.2.1.2, ib_oN (by omega) (by omega), ?_⟩⟩
    rw [oN_t (by omega), (ss.2.1 i hi).2.2.1, (ss.2.1 i hi).2.2.2]
    refine h_addV (nm := nm) hB h (by omega) hab (fun τ1 f1 b1 => ?_)
    have gi : ∀ a j, a = 15 ∨ a = 16 ∨ a = 17 → τ1.i a j = σ.i a j := fun a j q => f1.2.2.1 a j (by omega) (by omega)
    exact sp_75 (w := w) hm hk (Or.inl rfl) (hB.hd f1) hC b1 (fun τ f g1 g2 g3 b => kk τ _ ((f1.sp m).tr f) (fun e a j q => (g1 e a j q).trans (gi a j q)) (fun a j q1 q2 => (g2 a j q1 q2).trans (gi a j q1)) (fun el p es p1 p2 kd hs v e e1 e2 hS => g3 el p es p1 p2 kd hs v e e1 e2 ⟨(gi 15 _ (by omega)).trans hS.1, (gi 16 _ (by omega)).trans hS.2.1, (gi 17 _ (by omega)).trans hS.2.2⟩) (fun q => absurd q ne) (fun _ => rfl) b)
  · subst hl
    exact ⟨fun _ => sp_75 (w := w) hm hk (Or.inr rfl) hB hC h (fun τ f g1 g2 g3 b => kk τ _ f g1 g2 g3 (fun _ => rfl) (fun q => absurd q.symm ne) b), fun q => absurd (by decide) q⟩
theorem cl_spec {k : Nat} {l2 : Int32} {w : Int} (hm : m < 122) (hk : k < 3) (hl : l2 = Int32.ofNat k ∨ l2 = -1) (hj : ∀ p es, R = .inr (p, es) → ∀ nm ∈ vs, nm ≠ []) (hv : vs.length ≤ 3) (hB : HB t n N B C W σ) (hC : C.2.1 = 25 ∨ 102 ≤ C.2.1) (h : BdS t n N vs R σ) (kk : ∀ τ vs', SpF m σ τ → (l2 = -1 → ∀ a j, a = 15 ∨ a = 16 ∨ a = 17 → τ.i a j = σ.i a j) → (∀ a j, (a = 15 ∨ a = 16 ∨ a = 17) → j ≠ 3 * m + k → τ.i a j = σ.i a j) → (l2 = Int32.ofNat k → ∀ p es p2 e1 s, R = .inr (p, es) → pS1 t n (enW W.1 W.2.1 W.2.2.1 w) vs p = .inr (p2, e1, [], s) → SpC σ m k (0, false, 0) → SpC τ m k s) → (l2 = -1 → vs' = vs) → (l2 = Int32.ofNat k → ∃ nm, vs' = vs ++ [nm] ∧ ∀ p es, R = .inr (p, es) → nm = nmS t n p) → BdS t n N vs' (hs1 t n (enW W.1 W.2.1 W.2.2.1 w) vs R) τ → K (.inl none) τ) : C_X7_readSpec_0 Z (d + 3) σ (Int32.ofNat m) l2 K := by
  obtain ⟨i, i1, i2, i3, i4⟩ := h.pos hB
  refine T_X7_readSpec_0 hB.1 (h_take (y := 2) (by decide) hB h (fun τ1 f1 b1 => ?_))
  have hB1 := hB.hd f1
  have hB1' := hB1
  obtain ⟨fx, sa, ss, ⟨nn, hN1⟩, -⟩ := hB1'
  have hc := sa.2.2.2.2.2.2.2.2.2
  refine ⟨_, sa.2.2.1.1, _, sa.2.2.1.2, by rw [i2]; exact ib_oN (by omega) (by omega), _, sa.2.2.2.1.1, _, sa.2.2.2.1.2, by rw [i2]; exact ib_oN (by omega) (by omega), ?_⟩
  rw [i2, oN_t (by omega), (ss.2.1 i i1).2.2.1, (ss.2.1 i i1).2.2.2]
  have gi : ∀ τ, HdF σ τ → ∀ a j, a = 15 ∨ a = 16 ∨ a = 17 → τ.i a j = σ.i a j := fun τ f a j q => f.2.2.1 a j (by omega) (by omega)
  -- behind the name
  have rest : ∀ (nm : List Int32) (R1 : HR) (τ : Sg), HdF σ τ → R1 = hnd t n vs R → BdS t n N vs R1 τ → (∀ p es, R = .inr (p, es) → nm = nmS t n p) → (∀ p es, R1 = .inr (p, es) → hdS t n (sgP t n i) = nmH nm ∧ tlS t n (sgP t n i) = nmT nm ∧ (nm.length ≤ 16 ∧ ∀ c ∈ nm, nmC c)) → C_X7_readSpec_45 Z (d + 3) τ (Int32.ofNat m) l2 (Int32.ofNat i) K := fun nm R1 τ f eR b hnm hab => by
    refine sp_45 (w := w) hm hk hl i1 hv (hB.hd f) hC b hab (fun τ2 vs' f2 g1 g2 g3 v1 v2 b2 => kk τ2 vs' ((f.sp m).tr f2) (fun e a j q => (g1 e a j q).trans (gi τ f a j q)) (fun a j q1 q2 => (g2 a j q1 q2).trans (gi τ f a j q1)) (fun el p es p2 e1 s e e2 hS => ?_) v1 (fun el => ⟨nm, v2 el, hnm⟩) (by rw [hs1_eq, ← eR]; exact b2))
    subst e
    unfold pS1 at e2
    by_cases z : tyS t n p = 2
    · rw [if_pos z] at e2
      cases h1 : pSk t n (enW W.1 W.2.1 W.2.2.1 w) (nxS t n p) with
      | inl q =>
        rw [h1] at e2
        cases e2
      | inr x =>
        obtain ⟨p1, es1, kd⟩ := x
        rw [h1] at e2
        dsimp only at e2
        cases h2 : pSq t n p1 with
        | inl q =>
          rw [h2] at e2
          cases e2
        | inr y =>
          obtain ⟨p3, hs, v⟩ := y
          rw [h2] at e2
          have e2 := congrArg (fun x => x.2.2) (Sum.inr.inj e2)
          have e3 : es1 = [] := congrArg Prod.fst e2
          have e4 : (kd, hs, v) = s := congrArg Prod.snd e2
          rw [← e4]
          rw [e3] at h1
          have eR : R1 = .inr (nxS t n p, es ++ (if lstI vs (nmS t n p) = none then [] else [(p, 2)])) := by
            rw [eR]
            exact if_pos z
          exact g3 el _ _ p1 p3 kd hs v eR h1 h2 ⟨(gi τ f 15 _ (by omega)).trans hS.1, (gi τ f 16 _ (by omega)).trans hS.2.1, (gi τ f 17 _ (by omega)).trans hS.2.2⟩
    · rw [if_neg z] at e2
      cases e2
  rcases R with q | ⟨p, es⟩
  · have b1 : BdS t n N vs (.inl q) τ1 := b1
    have b1' := b1
    obtain ⟨-, bv, bl⟩ := b1'
    refine cl_findX (s := 3) (o := 56) fx xJ_0.2.2.2 (by decide) bv (by omega) (fun v _ _ => ⟨fun _ => rest [] (.inl q) τ1 f1 rfl b1 (fun p es e => by cases e) (fun p es e => by cases e), fun _ => h_break (rule := 2) hB1 b1 i1 (by decide) (fun τ2 f2 b2 => rest [] (.inl q) τ2 (f1.tr f2) rfl b2 (fun p es e => by cases e) (fun p es e => by cases e))⟩)
  · have e := i4 p es rfl
    by_cases z : tyS t n p = 2
    · have et : htk t n 2 (.inr (p, es)) = .inr (nxS t n p, es) := if_pos z
      rw [et] at b1
      have hh : hdS t n (sgP t n i) = nmH (nmS t n p) := by
        unfold hdS
        rw [e, if_pos (Or.inl z)]
      have ht : tlS t n (sgP t n i) = nmT (nmS t n p) := by
        unfold tlS
        rw [e, if_pos (Or.inl z)]
      have ok := nm_ok (t := t) (n := n) z
      rw [hh, ht]
      have b1' := b1
      obtain ⟨-, ⟨bv, bl, bn⟩, -⟩ := b1'
      refine cl_findN (s := 3) (o := 56) (ns := vs) fx xJ_0.2.2.2 (by decide) bv (by omega) (bn.nm (hj p es rfl)) ok ?_
      have n1 := idx_nn (o := lstI vs (nmS t n p)) (fun j hj => by have := lstI_lt hj; omega)
      have en : hnd t n vs (.inr (p, es)) = .inr (nxS t n p, es ++ (if lstI vs (nmS t n p) = none then [] else [(p, 2)])) := if_pos z
      refine ⟨fun y => rest (nmS t n p) _ τ1 f1 rfl ?_ (fun p' es' e => by cases e; rfl) (fun _ _ _ => ⟨hh, ht, ok⟩), fun y => h_break (rule := 2) hB1 b1 i1 (by decide) (fun τ2 f2 b2 => rest (nmS t n p) _ τ2 (f1.tr f2) rfl ?_ (fun p' es' e => by cases e; rfl) (fun _ _ _ => ⟨hh, ht, ok⟩))⟩
      · rw [en]
        cases hl : lstI vs (nmS t n p) with
        | none =>
          rw [if_pos rfl, List.append_nil]
          exact b1
        | some j =>
          rw [hl] at y n1
          exact absurd y (Int32.not_lt.mpr (n1.mpr rfl))
      · rw [en]
        rw [e] at b2
        cases hl : lstI vs (nmS t n p) with
        | none =>
          rw [hl] at y
          exact absurd (by decide) y
        | some j =>
          rw [if_neg (fun q => by cases q)]
          exact b2
    · have et : htk t n 2 (.inr (p, es)) = .inl p := if_neg z
      rw [et] at b1
      have en : hnd t n vs (.inr (p, es)) = .inl p := if_neg z
      have b1' := b1
      obtain ⟨-, bv, bl⟩ := b1'
      refine cl_findX (s := 3) (o := 56) fx xJ_0.2.2.2 (by decide) bv (by omega) (fun v _ _ => ⟨fun _ => rest (nmS t n p) (.inl p) τ1 f1 en.symm b1 (fun p' es' e => by cases e; rfl) (fun p es e => by cases e), fun _ => h_break (rule := 2) hB1 b1 i1 (by decide) (fun τ2 f2 b2 => rest (nmS t n p) (.inl p) τ2 (f1.tr f2) en.symm b2 (fun p' es' e => by cases e; rfl) (fun p es e => by cases e))⟩)
end SP4

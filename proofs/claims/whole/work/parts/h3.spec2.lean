/-! THE CLASS: a SPEC read, whole -/
section SP3
variable {Z : zT} {d : Nat} {t : Nat → Int32} {n N m : Nat} {B : Nat × Nat × Nat × Nat × Nat} {C : Nat × Nat × Nat × Nat} {W : Wld} {σ τ υ : Sg} {K : kS} {vs : List (List Int32)} {R : HR}
/-- : KIND == NUMBER -/
def hsk (t : Nat → Int32) (n : Nat) (env : Env) (R : HR) : HR := hbd R fun p es => match pSk t n env p with
  | .inl q => .inl q
  | .inr (p1, es1, _) => match pSq t n p1 with
    | .inl q => .inl q
    | .inr (p2, _, _) => .inr (p2, es ++ es1)
theorem ofN_m1 {k : Nat} (hk : k < 3) : Int32.ofNat k ≠ -1 := fun y => by
  have := congrArg Int32.toInt y
  rw [oN_i (by omega)] at this
  have : (k : Int) = -1 := this
  omega
theorem sp_75 {k : Nat} {l2 : Int32} {w : Int} (hm : m < 122) (hk : k < 3) (hl : l2 = Int32.ofNat k ∨ l2 = -1) (hB : HB t n N B C W σ) (hC : C.2.1 = 25 ∨ 102 ≤ C.2.1) (h : BdS t n N vs R σ) (kk : ∀ τ, SpF m σ τ → (l2 = -1 → ∀ a j, a = 15 ∨ a = 16 ∨ a = 17 → τ.i a j = σ.i a j) → (∀ a j, (a = 15 ∨ a = 16 ∨ a = 17) → j ≠ 3 * m + k → τ.i a j = σ.i a j) → (l2 = Int32.ofNat k → ∀ p es p1 p2 kd hs v, R = .inr (p, es) → pSk t n (enW W.1 W.2.1 W.2.2.1 w) p = .inr (p1, [], kd) → pSq t n p1 = .inr (p2, hs, v) → SpC σ m k (0, false, 0) → SpC τ m k (kd, hs, v)) → BdS t n N vs (hsk t n (enW W.1 W.2.1 W.2.2.1 w) R) τ → K (.inl none) τ) : C_X7_readSpec_75 Z (d + 3) σ (Int32.ofNat m) l2 K := by
  have tb := hsg_b (t := t) (n := n) R
  have l24 := hB.2.2.2.2.2.2.1.2.1
  refine T_X7_readSpec_75 hB.1 (h_sign hB h ?_)
  show (¬ Int32.ofNat (hsg t n R) = Int32.ofNat 8 → _) ∧ (Int32.ofNat (hsg t n R) = Int32.ofNat 8 → _)
  rw [oN_eq (by omega) (by decide)]
  refine ⟨fun z => ?_, fun z => ?_⟩
  · refine sp_124 hm hk hl hB hC h (fun τ R' d1 d2 f g1 g2 g3 b => kk τ f g1 (fun a j q1 q2 => g2 a j q1 (fun y => q2 y.2)) (fun el p es p1 p2 kd hs v e e1 e2 hS => ?_) ?_)
    · subst e
      have z : ¬ tyS t n p = 8 := z
      unfold pSk at e1
      rw [if_neg z] at e1
      have e1 := Sum.inr.inj e1
      have ep : p = p1 := congrArg Prod.fst e1
      have ek : (0 : Int) = kd := congrArg (fun x => x.2.2) e1
      subst ep ek
      obtain ⟨s1, s2, s3⟩ := hS
      obtain ⟨q1, q2⟩ := g3 el p es p2 hs v rfl e2 s2 s3
      exact ⟨(g2 15 _ (Or.inl rfl) (by omega)).trans s1, q1, q2⟩
    · rcases R with q | ⟨p, es⟩
      · rw [d1 q rfl] at b
        exact b
      · have z : ¬ tyS t n p = 8 := z
        have e : hsk t n (enW W.1 W.2.1 W.2.2.1 w) (.inr (p, es)) = R' := by
          rw [d2 p es rfl]
          unfold hsk hbd pSk
          dsimp only
          rw [if_neg z]
          dsimp only
          cases pSq t n p with
          | inl q => rfl
          | inr x =>
            dsimp only
            rw [List.append_nil]
        rw [e]
        exact b
  · rcases R with q | ⟨p, es⟩
    · cases z
    · have z : tyS t n p = 8 := z
      refine h_take (y := 8) (by decide) hB h (fun τ1 f1 b1 => ?_)
      have e1 : htk t n 8 (.inr (p, es)) = .inr (nxS t n p, es) := if_pos z
      rw [e1] at b1
      have hB1 := hB.hd f1
      refine h_kind (w := w) hB1 b1 (fun τ2 v v1 v2 hv f2 b2 => ?_)
      have hB2 := hB1.hd f2
      have fr : HdF σ τ2 := f1.tr f2
      have gi : ∀ a j, a = 15 ∨ a = 16 ∨ a = 17 → τ2.i a j = σ.i a j := fun a j q => fr.2.2.1 a j (by omega) (by omega)
      -- behind the kind
      have rest : ∀ τ3, SpF m σ τ3 → (∀ a j, (a = 16 ∨ a = 17) ∨ (a = 15 ∧ (j ≠ 3 * m + k ∨ l2 = -1)) → τ3.i a j = σ.i a j) → (l2 = Int32.ofNat k → 0 ≤ v → τ3.i 15 (3 * m + k) = Int32.ofInt v) → BdS t n N vs (hkn t n (enW W.1 W.2.1 W.2.2.1 w).1 (.inr (nxS t n p, es))) τ3 → C_X7_readSpec_124 Z (d + 3) τ3 (Int32.ofNat m) l2 K := fun τ3 f3 g3 k3 b3 => by
        refine sp_124 hm hk hl (hB.sp f3 hC) hC b3 (fun τ R' d1 d2 f h1 h2 h3 b => kk τ (f3.tr f) (fun e a j q => (h1 e a j q).trans (g3 a j (q.elim (fun q => Or.inr ⟨q, Or.inr e⟩) (fun q => Or.inl q)))) (fun a j q1 q2 => (h2 a j q1 (fun y => q2 y.2)).trans (g3 a j (by omega))) (fun el p' es' p1 p2 kd hs u e e2 e3 hS => ?_) ?_)
        · cases e
          unfold pSk at e2
          rw [if_pos z] at e2
          by_cases y2 : tyS t n (nxS t n p) = 2
          · rw [if_pos y2] at e2
            have e2 := Sum.inr.inj e2
            have ep : nxS t n (nxS t n p) = p1 := congrArg Prod.fst e2
            have ee := congrArg (fun x => x.2.1) e2
            have ek : idx ((enW W.1 W.2.1 W.2.2.1 w).1 (nmS t n (nxS t n p))) = kd := congrArg (fun x => x.2.2) e2
            dsimp only at ee
            have kn := ife_nil ee
            have hv := hv _ _ rfl y2
            have v0 : 0 ≤ v := by
              rw [hv]
              cases hk : (enW W.1 W.2.1 W.2.2.1 w).1 (nmS t n (nxS t n p)) with
              | none => exact absurd hk kn
              | some j => exact Int.natCast_nonneg j
            obtain ⟨s1, s2, s3⟩ := hS
            have eb : hkn t n (enW W.1 W.2.1 W.2.2.1 w).1 (.inr (nxS t n p, es)) = .inr (p1, es) := by
              have : hkn t n (enW W.1 W.2.1 W.2.2.1 w).1 (.inr (nxS t n p, es)) = .inr (nxS t n (nxS t n p), es ++ (if (enW W.1 W.2.1 W.2.2.1 w).1 (nmS t n (nxS t n p)) = none then [(nxS t n p, 3)] else [])) := if_pos y2
              rw [this, ee, List.append_nil, ep]
            obtain ⟨q1, q2⟩ := h3 el p1 es p2 hs u eb e3 ((g3 16 _ (by omega)).trans s2) ((g3 17 _ (by omega)).trans s3)
            refine ⟨(h2 15 _ (Or.inl rfl) (by omega)).trans ?_, q1, q2⟩
            show τ3.i 15 (3 * m + k) = Int32.ofInt kd
            rw [k3 el v0, hv, ek]
          · rw [if_neg y2] at e2
            cases e2
        · have e : hsk t n (enW W.1 W.2.1 W.2.2.1 w) (.inr (p, es)) = R' := by
            unfold hsk hbd pSk
            dsimp only
            rw [if_pos z]
            by_cases y2 : tyS t n (nxS t n p) = 2
            · have eb : hkn t n (enW W.1 W.2.1 W.2.2.1 w).1 (.inr (nxS t n p, es)) = .inr (nxS t n (nxS t n p), es ++ (if (enW W.1 W.2.1 W.2.2.1 w).1 (nmS t n (nxS t n p)) = none then [(nxS t n p, 3)] else [])) := if_pos y2
              rw [if_pos y2, d2 _ _ eb]
              dsimp only
              cases pSq t n (nxS t n (nxS t n p)) with
              | inl q => rfl
              | inr x => rfl
            · have eb : hkn t n (enW W.1 W.2.1 W.2.2.1 w).1 (.inr (nxS t n p, es)) = .inl (nxS t n p) := if_neg y2
              rw [if_neg y2, d1 _ eb]
          rw [e]
          exact b
      rcases hl with hl | hl
      · have ne := ofN_m1 hk
        rw [← hl] at ne
        subst hl
        show (Int32.ofNat k < 0 → _) ∧ (¬ Int32.ofNat k < 0 → _)
        rw [show (0 : Int32) = Int32.ofNat 0 from rfl, oN_lt (by omega) (by decide), show (3 : Int32) = Int32.ofNat 3 from rfl, oN_mul, oN_add, oN_t (by omega), show m * 3 + k = 3 * m + k by omega]
        have vi : (Int32.ofInt v < Int32.ofNat 0 → v < 0) ∧ (v < 0 → Int32.ofInt v < Int32.ofNat 0) := by
          rw [Int32.lt_iff_toInt_lt, Int32.toInt_ofInt, show Int32.size = 4294967296 from rfl, Int.bmod_eq_of_le (by omega) (by omega), oN_i (by decide)]
          exact ⟨fun q => q, fun q => q⟩
        refine ⟨fun q => absurd q (by omega), fun _ => ⟨fun q => rest τ2 (fr.sp m) (fun a j q => gi a j (by omega)) (fun _ q2 => absurd (vi.1 q) (by omega)) b2, fun q => ⟨ib_oN (by omega) (by omega), rest _ ((fr.sp m).tr (SpF.wi ⟨Or.inl rfl, by omega⟩)) (fun a j q => (wi_ne ?_).trans (gi a j (by omega))) (fun _ _ => wi_eq) (b2.wi (by decide) (by decide))⟩⟩⟩
        intro y
        rcases q with q | ⟨q1, q2 | q2⟩
        · omega
        · exact q2 y.2
        · exact ne q2
      · have ne := ofN_m1 hk
        subst hl
        exact ⟨fun _ => rest τ2 (fr.sp m) (fun a j q => gi a j (by omega)) (fun q => absurd q.symm ne) b2, fun q => absurd (by decide) q⟩
end SP3

/-! THE CLASS: layers and calls, as the document has them -/
theorem jnO_eq (y : Nat) : jnO y = if 34 ≤ y ∧ y ≤ 38 then some (y - 34) else none := by
  unfold jnO
  by_cases h : 34 ≤ y ∧ y ≤ 38
  · rw [if_pos h]
    have : y = 34 ∨ y = 35 ∨ y = 36 ∨ y = 37 ∨ y = 38 := by omega
    rcases this with rfl | rfl | rfl | rfl | rfl <;> rfl
  · rw [if_neg h, if_neg (by omega), if_neg (by omega), if_neg (by omega), if_neg (by omega), if_neg (by omega)]
theorem wyO_eq (y : Nat) : wyO y = if 39 ≤ y ∧ y ≤ 41 then some (y - 39) else none := by
  unfold wyO
  by_cases h : 39 ≤ y ∧ y ≤ 41
  · rw [if_pos h]
    have : y = 39 ∨ y = 40 ∨ y = 41 := by omega
    rcases this with rfl | rfl | rfl <;> rfl
  · rw [if_neg h, if_neg (by omega), if_neg (by omega), if_neg (by omega)]
theorem hd_va {t : Nat → Int32} {n p : Nat} (h : tyS t n p = 3) : (hdS t n p).toInt = (vaS t n p).toInt ∧ Int64.toInt32 (hdS t n p) = vaS t n p ∧ 0 ≤ (vaS t n p).toInt := by
  have hs : soS t n p = 3 := by
    rcases ty_or t n p with q | q | q | q | ⟨_, _, _, q⟩ | ⟨_, _, _, _, q⟩
    · omega
    · omega
    · omega
    · exact q.2.1
    · rcases q with q | ⟨q, q1, q2, q3⟩
      · omega
      · have := (mkL2_c q q1).2.1
        omega
    · rcases q with q | ⟨q, q1, q2, q3⟩
      · omega
      · have := (wdL_c q q1).2.1
        omega
  have nn := va_rng h
  have e1 : hdS t n p = (skD t n (n - p) p 0).2 := by
    unfold hdS
    rw [if_neg (by omega), if_pos h]
  have e2 : vaS t n p = Int64.toInt32 (skD t n (n - p) p 0).2 := by
    unfold vaS
    rw [if_pos (dig_3 h)]
  rcases so_or t n p with q | q | q | q | q | q
  · rw [q.1] at hs
    exact absurd hs (by decide)
  · rw [q] at hs
    exact absurd hs (by decide)
  · rw [q.1] at hs
    exact absurd hs (by decide)
  · obtain ⟨q1, q2, q3, q4⟩ := q
    unfold soS at hs
    rw [if_pos q2, if_neg q3, if_pos q4] at hs
    obtain ⟨r1, r2⟩ := skD_rng t n (n - p) p 0 (by decide) (by decide)
    split at hs
    · rename_i hc
      have hle : (skD t n (n - p) p 0).2.toInt ≤ 2147483647 := by
        unfold lg_cmp at hc
        refine Int.not_lt.mp fun z => ?_
        rw [if_pos (show (2147483647 : Int64) < _ by rw [Int64.lt_iff_toInt_lt]; exact z)] at hc
        exact absurd hc (by decide)
      refine ⟨?_, by rw [e1, e2], nn⟩
      rw [e1, e2, Int64.toInt_toInt32]
      rw [Int.bmod_eq_of_le (by omega) (by omega)]
    · exact absurd hs (by decide)
  · rw [q.1] at hs
    exact absurd hs (by decide)
  · rw [q.1] at hs
    exact absurd hs (by decide)
theorem cn_va {t : Nat → Int32} {n p : Nat} (h : tyS t n p = 3) : cnB (hdS t n p) ↔ (vaS t n p).toInt < 1 ∨ 3 < (vaS t n p).toInt := by
  have e := (hd_va h).1
  rw [← e]
  generalize hdS t n p = v
  unfold cnB lg_cmp
  have l1 : (v > 1) ↔ 1 < v.toInt := Int64.lt_iff_toInt_lt
  have l3 : (v > 3) ↔ 3 < v.toInt := Int64.lt_iff_toInt_lt
  have q1 : v = 1 ↔ v.toInt = 1 := ⟨fun z => by rw [z]; rfl, fun z => Int64.toInt_inj.mp z⟩
  have q3 : v = 3 ↔ v.toInt = 3 := ⟨fun z => by rw [z]; rfl, fun z => Int64.toInt_inj.mp z⟩
  simp only [l1, l3, q1, q3]
  by_cases a1 : 1 < v.toInt
  · rw [if_pos a1]
    by_cases a3 : 3 < v.toInt
    · rw [if_pos a3]
      exact ⟨fun _ => Or.inr a3, fun _ => Or.inr (by decide)⟩
    · rw [if_neg a3]
      refine ⟨fun z => ?_, fun z => by omega⟩
      rcases z with z | z
      · exact absurd z (by decide)
      · exact absurd (by split <;> decide) z
  · rw [if_neg a1, if_neg (show ¬ 3 < v.toInt by omega), if_neg (show ¬ v.toInt = 3 by omega)]
    by_cases a2 : v.toInt = 1
    · rw [if_pos a2]
      refine ⟨fun z => ?_, fun z => by omega⟩
      rcases z with z | z
      · exact absurd z (by decide)
      · exact absurd (by decide) z
    · rw [if_neg a2]
      exact ⟨fun _ => Or.inl (by omega), fun _ => Or.inl (by decide)⟩
section LC2
variable {t : Nat → Int32} {n : Nat} {env : Env}
def caR (t : Nat → Int32) (n : Nat) (env : Env) (len : Nat) (e : Evs) (R : HR) : HR := htk t n 7 (hrg t n 39 41 (hrg t n 34 38 (htk t n 5 (hev e (htk t n 3 (htk t n 4 (hnw t n env len 24 (htk t n 22 R))))))))
theorem ca_pure {len p : Nat} {es e : Evs} (hy : tyS t n p = 22) (he : tyS t n (nxS t n (nxS t n (nxS t n p))) = 3 → e = if (vaS t n (nxS t n (nxS t n (nxS t n p)))).toInt < 1 ∨ 3 < (vaS t n (nxS t n (nxS t n (nxS t n p)))).toInt then [(nxS t n (nxS t n (nxS t n p)), 4)] else []) : caR t n env len e (.inr (p, es)) = match pCl t n env len (nxS t n p) with
    | .inl q => .inl q
    | .inr (p', es', _) => .inr (p', es ++ es') := by
  unfold caR pCl
  have e1 : htk t n 22 (.inr (p, es)) = .inr (nxS t n p, es) := if_pos hy
  rw [e1]
  generalize nxS t n p = p1 at he ⊢
  by_cases y1 : tyS t n p1 = 2
  · have e2 : hnw t n env len 24 (.inr (p1, es)) = .inr (nxS t n p1, es ++ nmE t n env p1 (len = 24)) := if_pos y1
    rw [e2, if_pos y1]
    generalize nxS t n p1 = p2 at he ⊢
    by_cases y2 : tyS t n p2 = 4
    · have e3 : ∀ x, htk t n 4 (.inr (p2, x)) = .inr (nxS t n p2, x) := fun x => if_pos y2
      rw [e3, if_pos y2]
      generalize nxS t n p2 = p3 at he ⊢
      by_cases y3 : tyS t n p3 = 3
      · have e4 : ∀ x, htk t n 3 (.inr (p3, x)) = .inr (nxS t n p3, x) := fun x => if_pos y3
        rw [e4, if_pos y3, he y3]
        generalize nxS t n p3 = p4
        generalize (if (vaS t n p3).toInt < 1 ∨ 3 < (vaS t n p3).toInt then [(p3, 4)] else [] : Evs) = ev
        have e5 : ∀ x, hev ev (.inr (p4, x)) = .inr (p4, x ++ ev) := fun x => rfl
        rw [e5]
        by_cases y4 : tyS t n p4 = 5
        · have e6 : ∀ x, htk t n 5 (.inr (p4, x)) = .inr (nxS t n p4, x) := fun x => if_pos y4
          rw [e6, if_pos y4]
          generalize nxS t n p4 = p5
          rw [jnO_eq]
          by_cases y5 : 34 ≤ tyS t n p5 ∧ tyS t n p5 ≤ 38
          · have e7 : ∀ x, hrg t n 34 38 (.inr (p5, x)) = .inr (nxS t n p5, x) := fun x => if_pos y5
            rw [e7, if_pos y5]
            dsimp only
            generalize nxS t n p5 = p6
            rw [wyO_eq]
            by_cases y6 : 39 ≤ tyS t n p6 ∧ tyS t n p6 ≤ 41
            · have e8 : ∀ x, hrg t n 39 41 (.inr (p6, x)) = .inr (nxS t n p6, x) := fun x => if_pos y6
              rw [e8, if_pos y6]
              dsimp only
              generalize nxS t n p6 = p7
              by_cases y7 : tyS t n p7 = 7
              · have e9 : ∀ x, htk t n 7 (.inr (p7, x)) = .inr (nxS t n p7, x) := fun x => if_pos y7
                rw [e9, if_pos y7]
                dsimp only
                rw [List.append_assoc]
              · have e9 : ∀ x, htk t n 7 (.inr (p7, x)) = .inl p7 := fun x => if_neg y7
                rw [e9, if_neg y7]
            · have e8 : ∀ x, hrg t n 39 41 (.inr (p6, x)) = .inl p6 := fun x => if_neg y6
              rw [e8, if_neg y6]
              rfl
          · have e7 : ∀ x, hrg t n 34 38 (.inr (p5, x)) = .inl p5 := fun x => if_neg y5
            rw [e7, if_neg y5]
            rfl
        · have e6 : ∀ x, htk t n 5 (.inr (p4, x)) = .inl p4 := fun x => if_neg y4
          rw [e6, if_neg y4]
          rfl
      · have e4 : ∀ x, htk t n 3 (.inr (p3, x)) = .inl p3 := fun x => if_neg y3
        rw [e4, if_neg y3]
        rfl
    · have e3 : ∀ x, htk t n 4 (.inr (p2, x)) = .inl p2 := fun x => if_neg y2
      rw [e3, if_neg y2]
      rfl
  · have e2 : hnw t n env len 24 (.inr (p1, es)) = .inl p1 := if_neg y1
    rw [e2, if_neg y1]
    rfl
/-- a call that is read without fault -/
theorem cl_some {len p p' : Nat} {o : Option Cal} (h : pCl t n env len p = .inr (p', [], o)) : tyS t n p = 2 ∧ tyS t n (nxS t n p) = 4 ∧ tyS t n (nxS t n (nxS t n p)) = 3 ∧ tyS t n (nxS t n (nxS t n (nxS t n p))) = 5 ∧ (34 ≤ tyS t n (nxS t n (nxS t n (nxS t n (nxS t n p)))) ∧ tyS t n (nxS t n (nxS t n (nxS t n (nxS t n p)))) ≤ 38) ∧ (39 ≤ tyS t n (nxS t n (nxS t n (nxS t n (nxS t n (nxS t n p))))) ∧ tyS t n (nxS t n (nxS t n (nxS t n (nxS t n (nxS t n p))))) ≤ 41) ∧ toE env (nmS t n p) = false ∧ ¬ len = 24 ∧ (1 ≤ (vaS t n (nxS t n (nxS t n p))).toInt ∧ (vaS t n (nxS t n (nxS t n p))).toInt ≤ 3) ∧ o = some (nmS t n p, (vaS t n (nxS t n (nxS t n p))).toInt.toNat, tyS t n (nxS t n (nxS t n (nxS t n (nxS t n p)))) - 34, tyS t n (nxS t n (nxS t n (nxS t n (nxS t n (nxS t n p))))) - 39) := by
  unfold pCl at h
  rw [jnO_eq, wyO_eq] at h
  generalize nxS t n (nxS t n (nxS t n (nxS t n (nxS t n (nxS t n p))))) = p6 at h ⊢
  generalize nxS t n (nxS t n (nxS t n (nxS t n (nxS t n p)))) = p5 at h ⊢
  generalize nxS t n (nxS t n (nxS t n (nxS t n p))) = p4 at h ⊢
  generalize nxS t n (nxS t n (nxS t n p)) = p3 at h ⊢
  generalize nxS t n (nxS t n p) = p2 at h ⊢
  generalize nxS t n p = p1 at h ⊢
  by_cases y1 : tyS t n p = 2
  · rw [if_pos y1] at h
    by_cases y2 : tyS t n p1 = 4
    · rw [if_pos y2] at h
      by_cases y3 : tyS t n p2 = 3
      · rw [if_pos y3] at h
        by_cases y4 : tyS t n p3 = 5
        · rw [if_pos y4] at h
          by_cases y5 : 34 ≤ tyS t n p4 ∧ tyS t n p4 ≤ 38
          · rw [if_pos y5] at h
            by_cases y6 : 39 ≤ tyS t n p5 ∧ tyS t n p5 ≤ 41
            · rw [if_pos y6] at h
              dsimp only at h
              by_cases y7 : tyS t n p6 = 7
              · rw [if_pos y7] at h
                have h2 := congrArg (fun x => x.2) (Sum.inr.inj h)
                have h3 := congrArg Prod.fst h2
                have h4 := congrArg Prod.snd h2
                dsimp only at h3 h4
                obtain ⟨z1, z2⟩ := List.append_eq_nil_iff.mp h3
                obtain ⟨z3, z4⟩ := nmE_nil z1
                have z5 := ife_nil z2
                rw [if_neg z4, if_neg z5] at h4
                exact ⟨y1, y2, y3, y4, y5, y6, z3, z4, by omega, h4.symm⟩
              · rw [if_neg y7] at h
                cases h
            · rw [if_neg y6] at h
              cases h
          · rw [if_neg y5] at h
            cases h
        · rw [if_neg y4] at h
          cases h
      · rw [if_neg y3] at h
        cases h
    · rw [if_neg y2] at h
      cases h
  · rw [if_neg y1] at h
    cases h
end LC2

/-! THE REFERENCE'S READER: isThere() -/
/-- the specs of two Methods are the same at a place -/
def spQ (σ : Sg) (A M i : Nat) : Prop := σ.i (A + 1) i = σ.i (M + 1) i ∧ σ.i (A + 3) i = σ.i (M + 3) i ∧ (σ.i (A + 3) i = 0 ∨ σ.i (A + 2) i = σ.i (M + 2) i)
def thQ (σ : Sg) (M pl j : Nat) : Prop := 2497 + 4 * j ≠ M ∧ σ.i (2497 + 4 * j) 10 = 0 ∧ σ.i (2497 + 4 * j) 0 = σ.i M 0 ∧ σ.r (2497 + 4 * j) 8 = Rf.nul ∧ σ.i (2497 + 4 * j) 1 = σ.i M 1 ∧ σ.i (2497 + 4 * j) 2 = σ.i M 2 ∧ ∀ i, i < pl → spQ σ (2497 + 4 * j) M i
def thX (σ : Sg) (M mn pl : Nat) : Prop := σ.r M 8 = Rf.nul ∧ ∃ j, 1 ≤ j ∧ j ≤ mn ∧ thQ σ M pl j
section THERE
variable {Z : zT} {d : Nat} {σ : Sg} {K : kS} {M mn pl c : Nat}
theorem rf_isThere (F : FX ΦR σ.sh σ.r) (hM : MtP M) (e6 : σ.i 0 6 = Int32.ofNat mn) (hmn : mn ≤ 120) (hc : σ.i M 0 = Int32.ofNat c) (hc24 : c < 24) (hp : σ.i (2409 + 3 * c) 1 = Int32.ofNat pl) (hpl : pl ≤ 3) (h1 : thX σ M mn pl → K (.inl (some (.int 1))) σ) (h0 : ¬ thX σ M mn pl → K (.inl (some (.int 0))) σ) : B_X23_isThere_0 Z (d + 1) σ M K := by
  refine S_X23_isThere_0 F ⟨hM.sh, fun hr => ?_, fun hr => h0 fun z => hr z.1⟩
  have l87 : ∀ (j : Nat), 1 ≤ j → j ≤ mn → (¬ thQ σ M pl j → B_X23_isThere_11 Z (d + 1) σ M (Int32.ofNat (j + 1)) K) → (2497 + 4 * j ≠ M ∧ σ.i (2497 + 4 * j) 10 = 0 ∧ σ.i (2497 + 4 * j) 0 = σ.i M 0 ∧ σ.r (2497 + 4 * j) 8 = Rf.nul ∧ σ.i (2497 + 4 * j) 1 = σ.i M 1 ∧ σ.i (2497 + 4 * j) 2 = σ.i M 2) → ∀ x i (b : Bool), pl - i = x → i ≤ pl → (b = true → ∀ i', i' < i → spQ σ (2497 + 4 * j) M i') → (b = false → ∃ i', i' < pl ∧ ¬ spQ σ (2497 + 4 * j) M i') → B_X23_isThere_87 Z (d + 1) σ M (Int32.ofNat j) (2497 + 4 * j) (if b = true then 1 else 0) (Int32.ofNat i) K := by
    intro j hj1 hj2 hnx hq x
    have hps : sh0R[2497 + 4 * j]? = some (Sh.obj 19) := mt_p (by omega)
    induction x with
    | zero =>
      intro i b hx hi hb1 hb0
      have e : i = pl := by omega
      subst e
      refine S_X23_isThere_87 F hM.sh hps ?_
      rw [hc, oN_t (by omega), hp]
      refine ⟨ib_oN hc24 (by decide), fun _ => ?_, fun z => absurd (Int32.le_refl _) z⟩
      cases b with
      | true => exact ⟨fun z => absurd z (by decide), fun _ => h1 ⟨hr, j, hj1, hj2, hq.1, hq.2.1, hq.2.2.1, hq.2.2.2.1, hq.2.2.2.2.1, hq.2.2.2.2.2, hb1 rfl⟩⟩
      | false =>
        refine ⟨fun _ => ?_, fun z => absurd rfl z⟩
        rw [oN_1]
        obtain ⟨i', i1, i2⟩ := hb0 rfl
        exact hnx fun z => i2 (z.2.2.2.2.2.2 i' i1)
    | succ x ih =>
      intro i b hx hi hb1 hb0
      have bi : ib (Int32.ofNat i) 3 := ib_oN (by omega) (by decide)
      have ti : (Int32.ofNat i).toNatClampNeg = i := oN_t (by omega)
      refine S_X23_isThere_87 F hM.sh hps ?_
      rw [hc, oN_t (by omega), hp, ti, oN_1 i]
      refine ⟨ib_oN hc24 (by decide), fun z => ?_, fun _ => ?_⟩
      · have := (oN_le (by omega) (by omega)).mp z
        omega
      · cases b with
        | false =>
          refine ⟨fun _ => ih (i + 1) false (by omega) (by omega) (fun z => by cases z) hb0, fun z => absurd rfl z⟩
        | true =>
          have no : ¬ spQ σ (2497 + 4 * j) M i → B_X23_isThere_87 Z (d + 1) σ M (Int32.ofNat j) (2497 + 4 * j) 0 (Int32.ofNat (i + 1)) K := fun z => ih (i + 1) false (by omega) (by omega) (fun z => by cases z) (fun _ => ⟨i, by omega, z⟩)
          have yes : spQ σ (2497 + 4 * j) M i → B_X23_isThere_87 Z (d + 1) σ M (Int32.ofNat j) (2497 + 4 * j) 1 (Int32.ofNat (i + 1)) K := fun z => ih (i + 1) true (by omega) (by omega) (fun _ i' hi' => by
            by_cases q : i' = i
            · rw [q]
              exact z
            · exact hb1 rfl i' (by omega)) (fun z => by cases z)
          refine ⟨fun z => absurd z (by decide), fun _ => ⟨bi, bi, fun z => no fun y => z y.1, fun y1 => ⟨bi, bi, fun z => no fun y => z y.2.1, fun y2 => ⟨bi, fun y3 => yes ⟨y1, y2, Or.inl y3⟩, fun y3 => ⟨bi, bi, fun z => no fun y => ?_, fun y4 => yes ⟨y1, y2, Or.inr y4⟩⟩⟩⟩⟩⟩
          rcases y.2.2 with w | w
          · exact y3 w
          · exact z w
  have l11 : ∀ x j, mn + 1 - j = x → 1 ≤ j → j ≤ mn + 1 → (∀ j', 1 ≤ j' → j' < j → ¬ thQ σ M pl j') → B_X23_isThere_11 Z (d + 1) σ M (Int32.ofNat j) K := by
    intro x
    induction x with
    | zero =>
      intro j hx hj1 hj2 hn
      have e : j = mn + 1 := by omega
      subst e
      refine S_X23_isThere_11 F hM.sh ⟨fun _ => h0 ?_, fun z => absurd (by rw [e6]; exact (oN_lt (by omega) (by omega)).mpr (by omega)) z⟩
      rintro ⟨-, j, g1, g2, g3⟩
      exact hn j g1 (by omega) g3
    | succ x ih =>
      intro j hx hj1 hj2 hn
      have tj : (Int32.ofNat j).toNatClampNeg = j := oN_t (by omega)
      have nx : ¬ thQ σ M pl j → B_X23_isThere_11 Z (d + 1) σ M (Int32.ofNat (j + 1)) K := fun z => ih (j + 1) (by omega) (by omega) (by omega) (fun j' g1 g2 => by
        by_cases q : j' = j
        · rw [q]
          exact z
        · exact hn j' g1 (by omega))
      refine S_X23_isThere_11 F hM.sh ⟨fun z => ?_, fun _ => ?_⟩
      · rw [e6] at z
        have := (oN_lt (by omega) (by omega)).mp z
        omega
      · rw [tj, oN_1]
        exact ⟨ib_oN (by omega) (by decide), fun z => nx fun y => y.1 z, fun y1 => ⟨fun z => nx fun y => z y.2.1, fun y2 => ⟨fun z => nx fun y => z y.2.2.1, fun y3 => ⟨fun z => nx fun y => z y.2.2.2.1, fun y4 => ⟨fun z => nx fun y => z y.2.2.2.2.1, fun y5 => ⟨fun y6 => l87 j hj1 (by omega) nx ⟨y1, y2, y3, y4, y5, y6⟩ pl 0 true (by omega) (Nat.zero_le _) (fun _ i' hi' => by omega) (fun z => by cases z), fun z => nx fun y => z y.2.2.2.2.2.1⟩⟩⟩⟩⟩⟩
  exact l11 _ 1 rfl (by decide) (by omega) (fun j' g1 g2 => by omega)
end THERE

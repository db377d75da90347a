/-! THE REFERENCE: bound() -/
theorem oN_mul (a b : Nat) : Int32.ofNat a * Int32.ofNat b = Int32.ofNat (a * b) := (Int32.ofNat_mul a b).symm
theorem i64_add {x y : Int64} (h1 : -9223372036854775808 ≤ x.toInt + y.toInt) (h2 : x.toInt + y.toInt ≤ 9223372036854775807) : (x + y).toInt = x.toInt + y.toInt := by
  rw [Int64.toInt_add, Int.bmod_def]
  omega
theorem cmp0 {v : Int64} : 0 ≤ lg_cmp v 0 ↔ 0 ≤ v.toInt := by
  unfold lg_cmp
  have e0 : (0 : Int64).toInt = 0 := rfl
  split
  · rename_i h
    have h := Int64.lt_iff_toInt_lt.mp h
    rw [e0] at h
    exact ⟨fun _ => by omega, fun _ => by decide⟩
  · rename_i h
    split
    · rename_i e
      subst e
      exact ⟨fun _ => by rw [e0]; exact Int.le_refl _, fun _ => by decide⟩
    · rename_i e
      refine ⟨fun z => absurd z (by decide), fun z => absurd ?_ e⟩
      have h : ¬ (0 : Int64).toInt < v.toInt := fun q => h (Int64.lt_iff_toInt_lt.mpr q)
      rw [e0] at h
      exact Int64.toInt_inj.mp (by rw [e0]; omega)
/-- the table at s -/
def TbIs (σ : Sg) (s : Nat) (D : Nat → Nat → Int) : Prop := ∀ i j, i < 4 → j < 4 → (σ.l s (4 * i + j)).toInt = D i j
def dBd (D : Nat → Nat → Int) (M : Int) : Prop := ∀ i j, i < 4 → j < 4 → -M ≤ D i j ∧ D i j ≤ M
/-- the same but for the longs at s -/
def FrS (s : Nat) (σ τ : Sg) : Prop := τ.sh = σ.sh ∧ τ.i = σ.i ∧ τ.r = σ.r ∧ ∀ a, a ≠ s → τ.l a = σ.l a
section BOUND
variable {Z : zT} {d s a b : Nat} {σ : Sg} {K : kS} {c : Int64} {D : Nat → Nat → Int}
theorem rf_bound (F0 : FX ΦR σ.sh σ.r) (p0 : sh0R[s]? = some (Sh.arr 1 16)) (ha : a < 4) (hb : b < 4) (hD : TbIs σ s D) (hB : dBd D 1000000000000) (hc1 : -1000000000000 ≤ c.toInt) (hc2 : c.toInt ≤ 1000000000000) (h0 : ¬ 0 ≤ D b a + c.toInt → K (.inl (some (.int 0))) σ) (h1 : 0 ≤ D b a + c.toInt → ∀ τ, FX ΦR τ.sh τ.r → FrS s σ τ → TbIs τ s (dUp D a b c.toInt) → K (.inl (some (.int 1))) τ) : B_X23_bound_0 Z (d + 1) σ s (Int32.ofNat a) (Int32.ofNat b) c K := by
  have ix4 : ∀ i j : Nat, (4 : Int32) * Int32.ofNat i + Int32.ofNat j = Int32.ofNat (4 * i + j) := fun i j => by
    rw [show (4 : Int32) = Int32.ofNat 4 from rfl, oN_mul, oN_add]
  have bD := hB b a hb ha
  have ev : (σ.l s (4 * b + a) + c).toInt = D b a + c.toInt := by
    rw [i64_add] <;> rw [hD b a hb ha] <;> omega
  refine S_X23_bound_0 F0 ⟨16, F0.s p0, ?_, fun q => ?_, fun q => ?_⟩
  · rw [ix4]
    exact ib_oN (by omega) (by decide)
  · rw [ix4, oN_t (by omega), cmp0, ev] at q
    have hK := h1 q
    have loop : ∀ m i j (τ : Sg), 20 - (5 * i + j) = m → i ≤ 4 → j ≤ 4 → (i = 4 → j = 0) → FrS s σ τ → (∀ i' j', i' < 4 → j' < 4 → (τ.l s (4 * i' + j')).toInt = if i' < i ∨ (i' = i ∧ j' < j) then dUp D a b c.toInt i' j' else D i' j') → (i < 4 → B_X23_bound_28 Z (d + 1) τ s (Int32.ofNat a) (Int32.ofNat b) c (Int32.ofNat i) (Int32.ofNat j) K) ∧ (j = 0 → B_X23_bound_19 Z (d + 1) τ s (Int32.ofNat a) (Int32.ofNat b) c (Int32.ofNat i) K) := by
      intro m
      induction m with
      | zero =>
        intro i j τ hm hi hj h40 hF hT
        have F : FX ΦR τ.sh τ.r := by rw [hF.1, hF.2.2.1]; exact F0
        have i4 : i = 4 := by omega
        subst i4
        refine ⟨fun z => absurd z (Nat.lt_irrefl _), fun _ => ?_⟩
        refine S_X23_bound_19 F ⟨fun _ => hK τ F hF fun i' j' a1 a2 => ?_, fun z => absurd (by decide) z⟩
        rw [hT i' j' a1 a2, if_pos (Or.inl a1)]
      | succ m ih =>
        intro i j τ hm hi hj h40 hF hT
        have F : FX ΦR τ.sh τ.r := by rw [hF.1, hF.2.2.1]; exact F0
        have p28 : i < 4 → B_X23_bound_28 Z (d + 1) τ s (Int32.ofNat a) (Int32.ofNat b) c (Int32.ofNat i) (Int32.ofNat j) K := by
          intro hi4
          refine S_X23_bound_28 F ⟨fun z => ?_, fun z => ?_⟩
          · rw [show (4 : Int32) = Int32.ofNat 4 from rfl, oN_le (by omega) (by omega)] at z
            have j4 : j = 4 := by omega
            subst j4
            rw [oN_1]
            refine (ih (i + 1) 0 τ (by omega) (by omega) (by omega) (fun _ => rfl) hF fun i' j' a1 a2 => ?_).2 rfl
            rw [hT i' j' a1 a2]
            by_cases g : i' < i ∨ (i' = i ∧ j' < 4)
            · rw [if_pos g, if_pos (by omega)]
            · rw [if_neg g, if_neg (by omega)]
          · rw [show (4 : Int32) = Int32.ofNat 4 from rfl, oN_le (by omega) (by omega)] at z
            have hj4 : j < 4 := by omega
            refine ⟨16, F.s p0, ?_, ?_, ?_, ?_, ?_⟩
            · rw [ix4]
              exact ib_oN (by omega) (by decide)
            · rw [ix4]
              exact ib_oN (by omega) (by decide)
            · rw [ix4]
              exact ib_oN (by omega) (by decide)
            · rw [ix4]
              exact ib_oN (by omega) (by decide)
            · rw [ix4, ix4, ix4, oN_t (by omega), oN_t (by omega), oN_t (by omega), oN_1]
              have r1 : (τ.l s (4 * i + a)).toInt = D i a := by
                rw [hT i a hi4 ha]
                split
                · exact dUp_row q i
                · rfl
              have r2 : (τ.l s (4 * b + j)).toInt = D b j := by
                rw [hT b j hb hj4]
                split
                · exact dUp_col q j
                · rfl
              have r3 : (τ.l s (4 * i + j)).toInt = D i j := by
                rw [hT i j hi4 hj4, if_neg (by omega)]
              have b1 := hB i a hi4 ha
              have b2 := hB b j hb hj4
              have s1 : (τ.l s (4 * i + a) + c).toInt = D i a + c.toInt := by
                rw [i64_add] <;> rw [r1] <;> omega
              have s2 : (τ.l s (4 * i + a) + c + τ.l s (4 * b + j)).toInt = D i a + c.toInt + D b j := by
                rw [i64_add] <;> rw [s1, r2] <;> omega
              refine (ih i (j + 1) (τ.wl s (4 * i + j) (if τ.l s (4 * i + a) + c + τ.l s (4 * b + j) < τ.l s (4 * i + j) then τ.l s (4 * i + a) + c + τ.l s (4 * b + j) else τ.l s (4 * i + j))) (by omega) hi (by omega) (fun e => absurd e (by omega)) ⟨hF.1, hF.2.1, hF.2.2.1, fun x hx => (up_row (f := τ.l) hx).trans (hF.2.2.2 x hx)⟩ fun i' j' a1 a2 => ?_).1 hi4
              show (up τ.l s (4 * i + j) (if τ.l s (4 * i + a) + c + τ.l s (4 * b + j) < τ.l s (4 * i + j) then τ.l s (4 * i + a) + c + τ.l s (4 * b + j) else τ.l s (4 * i + j)) s (4 * i' + j')).toInt = _
              by_cases g : i' = i ∧ j' = j
              · obtain ⟨rfl, rfl⟩ := g
                rw [up_same, if_pos (show i' < i' ∨ (i' = i' ∧ j' < j' + 1) from Or.inr ⟨rfl, Nat.lt_succ_self _⟩)]
                unfold dUp
                by_cases g2 : D i' a + c.toInt + D b j' < D i' j'
                · rw [if_pos g2, if_pos (Int64.lt_iff_toInt_lt.mpr (by rw [s2, r3]; exact g2)), s2]
                · rw [if_neg g2, if_neg (fun y => g2 (by have := Int64.lt_iff_toInt_lt.mp y; rw [s2, r3] at this; exact this)), r3]
              · rw [up_ne (by omega), hT i' j' a1 a2]
                by_cases g3 : i' < i ∨ (i' = i ∧ j' < j)
                · rw [if_pos g3, if_pos (by omega)]
                · rw [if_neg g3, if_neg (by omega)]
        refine ⟨p28, fun j0 => ?_⟩
        subst j0
        by_cases hi4 : i < 4
        · refine S_X23_bound_19 F ⟨fun z => ?_, fun _ => p28 hi4⟩
          rw [show (4 : Int32) = Int32.ofNat 4 from rfl, oN_le (by omega) (by omega)] at z
          omega
        · omega
    exact (loop 20 0 0 σ rfl (by decide) (by decide) (fun _ => rfl) ⟨rfl, rfl, rfl, fun _ _ => rfl⟩ fun i' j' a1 a2 => by rw [hD i' j' a1 a2, if_neg (by omega)]).2 rfl
  · rw [ix4, oN_t (by omega), cmp0, ev] at q
    exact h0 q
end BOUND

/-! THE CLASS: a call read, its beginning -/
section CB
variable {Z : zT} {d : Nat} {t : Nat → Int32} {n N : Nat} {B : Nat × Nat × Nat × Nat × Nat} {C : Nat × Nat × Nat × Nat} {W : Wld} {σ τ υ : Sg} {K : kS} {vs : List (List Int32)} {R : HR}
/-- the number is not one of 1, 2, 3 -/
def cnB (v : Int64) : Prop := lg_cmp v 1 < 0 ∨ ¬ lg_cmp v 3 ≤ 0
theorem cl_ca0 {w : Int} (hB : HB t n N B C W σ) (h : BdS t n N vs R σ) (k : ∀ τ i j (b : Bool), i ≤ N → j ≤ N → HdF σ τ → (∀ p es, htk t n 22 R = .inr (p, es) → sgP t n i = p) → (∀ p es, htk t n 4 (hnw t n (enW W.1 W.2.1 W.2.2.1 w) W.2.1.length 24 (htk t n 22 R)) = .inr (p, es) → sgP t n j = p) → (b = true ↔ cnB (hdS t n (sgP t n j))) → BdS t n N vs (hev (if b = true then [(sgP t n j, 4)] else []) (htk t n 3 (htk t n 4 (hnw t n (enW W.1 W.2.1 W.2.2.1 w) W.2.1.length 24 (htk t n 22 R))))) τ → C_X7_readCall_63 Z (d + 4) τ (Int32.ofNat i) (Int32.ofNat j) K) : C_X7_readCall_0 Z (d + 4) σ K := by
  have l24 := hB.2.2.2.2.2.2.2.1.2.1
  refine T_X7_readCall_0 hB.1 (h_take (y := 22) (by decide) hB h (fun τ1 f1 h1 => ?_))
  have hB1 := hB.hd f1
  obtain ⟨i, i1, i2, i3, i4⟩ := h1.pos hB1
  refine h_new (s := 1) (len := W.2.1.length) (most := 24) (w := w) (by decide) xJ_1.2.1 (fun τ hτ => hτ.2.2.2.2.2.2.2.1.1) ⟨l24, by decide⟩ hB1 h1 (fun τ2 f2 h2 => ?_)
  have hB2 := hB1.hd f2
  refine h_take (y := 4) (by decide) hB2 h2 (fun τ3 f3 h3 => ?_)
  have hB3 := hB2.hd f3
  obtain ⟨j, j1, j2, j3, j4⟩ := h3.pos hB3
  refine h_take (y := 3) (by decide) hB3 h3 (fun τ4 f4 h4 => ?_)
  have hB4 := hB3.hd f4
  have hB4' := hB4
  obtain ⟨fx, sa, ss, ⟨nn, hN1⟩, -⟩ := hB4'
  have hc := sa.2.2.2.2.2.2.2.2.2
  have fr : HdF σ τ4 := ((f1.tr f2).tr f3).tr f4
  rw [i2, j2]
  have brk : cnB (hdS t n (sgP t n j)) → C_X7_readCall_57 Z (d + 4) τ4 (Int32.ofNat i) (Int32.ofNat j) K := fun z => by
    refine T_X7_readCall_57 fx (h_break (rule := 4) hB4 h4 j1 (by decide) (fun τ5 f5 h5 => ?_))
    exact k τ5 i j true i1 j1 (fr.tr f5) i4 j4 ⟨fun _ => z, fun _ => rfl⟩ h5
  have hd : τ4.l B.2.2.2.1 ((Int32.ofNat j).toNatClampNeg) = hdS t n (sgP t n j) := by
    rw [oN_t (by omega), (ss.2.1 j j1).2.2.1]
  refine ⟨_, sa.2.2.1.1, _, sa.2.2.1.2, ib_oN (by omega) (by omega), ?_⟩
  rw [hd]
  refine ⟨fun z => brk (Or.inl z), fun z => ⟨_, sa.2.2.1.1, _, sa.2.2.1.2, ib_oN (by omega) (by omega), ?_⟩⟩
  rw [hd]
  refine ⟨fun z2 => k τ4 i j false i1 j1 fr i4 j4 ⟨fun y => (by cases y), fun y => ?_⟩ ?_, fun z2 => brk (Or.inr z2)⟩
  · rcases y with y | y
    · exact absurd y z
    · exact absurd z2 y
  · rw [if_neg (by decide)]
    cases hR : htk t n 3 (htk t n 4 (hnw t n (enW W.1 W.2.1 W.2.2.1 w) W.2.1.length 24 (htk t n 22 R))) with
    | inl q =>
      rw [hR] at h4
      exact h4
    | inr x =>
      obtain ⟨p, es⟩ := x
      rw [hR] at h4
      unfold hev hbd
      dsimp only
      rw [List.append_nil]
      exact h4
end CB

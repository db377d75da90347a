/-! rows of bytes, new and copied -/
theorem conc_alB (σ : Sg) (n : Nat) : conc (σ.al (Sh.arr 2 n)) = conc σ ++ [.inr (.inl (2, .inl (List.replicate n 0)))] := by
  rw [conc_al, sg_c_arr]
  show conc σ ++ [.inr (.inl (2, .inl ((List.range n).map (fun _ => 0))))] = _
  rw [rg_rep]
/-- all of a row's piece are bytes -/
def bys (σ : Sg) (a0 sp n : Nat) : Prop := ∀ i, i < n → fits .byte (.int (σ.i a0 (sp + i))) = true
theorem c_cpB {σ : Sg} {a0 a m0 m : Nat} {n dp sp : Int32} {r : List Value} (h0 : σ.sh[a0]? = some (Sh.arr 2 m0)) (h1 : σ.sh[a]? = some (Sh.arr 2 m)) (hb : cpb sp dp n m0 m) (hy : bys σ a0 sp.toNatClampNeg n.toNatClampNeg) (hr : ¬ 8 < ab_cat r) : ab_cp (conc σ) (.int n :: .int dp :: .ref a :: .int sp :: .ref a0 :: r) = some (r, conc (σ.cpI a0 sp.toNatClampNeg a dp.toNatClampNeg n.toNatClampNeg)) := by
  obtain ⟨b1, b2, b3, b4, b5⟩ := hb
  have hc : ¬ (n < 0 ∨ dp < 0 ∨ sp < 0 ∨ 8 < ab_cat r) := by
    rintro (q | q | q | q)
    · exact b1 q
    · exact b2 q
    · exact b3 q
    · exact hr q
  have e0 : (conc σ)[a0]? = some (.inr (.inl (2, .inl ((List.range m0).map (σ.i a0))))) := conc_get h0
  have e1 : (conc σ)[a]? = some (.inr (.inl (2, .inl ((List.range m).map (σ.i a))))) := conc_get h1
  have hf : sp.toNatClampNeg + n.toNatClampNeg ≤ ((List.range m0).map (σ.i a0)).length ∧ dp.toNatClampNeg + n.toNatClampNeg ≤ ((List.range m).map (σ.i a)).length ∧ ∀ i, i < n.toNatClampNeg → fits .byte (.int (((List.range m0).map (σ.i a0)).getD (sp.toNatClampNeg + i) 0)) = true := by
    refine ⟨by rw [List.length_map, List.length_range]; exact b4, by rw [List.length_map, List.length_range]; exact b5, fun i hi => ?_⟩
    rw [List.getD_eq_getElem?_getD, rg_get _ (by omega)]
    exact hy i hi
  simp only [ab_cp, if_neg hc, ab_arI, ab_arL, e0, e1, if_neg (show ¬ (2 = 0) by decide), if_pos, Option.bind_some, if_pos hf]
  rw [lay_rg _ _ _ b4, conc_set (σ := σ) (τ := σ.cpI a0 sp.toNatClampNeg a dp.toNatClampNeg n.toNatClampNeg) rfl h1 (fun b hb => funext fun j => if_neg (fun q => hb q.1)) (fun _ _ => rfl) (fun _ _ => rfl), sg_c_arr]
  show _ = some (r, (conc σ).set a (.inr (.inl (2, .inl ((List.range m).map fun j => if a = a ∧ dp.toNatClampNeg ≤ j ∧ j < dp.toNatClampNeg + n.toNatClampNeg then σ.i a0 (sp.toNatClampNeg + (j - dp.toNatClampNeg)) else σ.i a j)))))
  simp only [true_and]

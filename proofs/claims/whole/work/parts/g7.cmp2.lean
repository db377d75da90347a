/-! THE CLASS: a comparison read -/
theorem lsE_abs {es : Evs} {v e : Nat × Nat} (h : lsE es = some v) (hl : v.1 < e.1 ∨ (v.1 = e.1 ∧ v.2 ≤ e.2)) : lsE (es ++ [e]) = some v := by
  rw [lsE_snoc, h]
  obtain ⟨u, u1, u2⟩ := lsE_le _ (es ++ [e]) rfl v (List.mem_append_left _ (lsE_mem es v h))
  rw [lsE_snoc, h] at u1
  rw [u1]
  have mu := lsE_mem (es ++ [e]) u (by rw [lsE_snoc, h]; exact u1)
  rcases List.mem_append.mp mu with m | m
  · obtain ⟨v', v1, v2⟩ := lsE_le _ es rfl u m
    rw [h] at v1
    have ee := Option.some.inj v1
    subst ee
    have e1 : u.1 = v.1 := by omega
    have e2 : u.2 = v.2 := by omega
    rw [Prod.ext e1 e2]
  · have := List.mem_singleton.mp m
    subst this
    have e1 : u.1 = v.1 := by omega
    have e2 : u.2 = v.2 := by omega
    rw [Prod.ext e1 e2]
section CM2
variable {Z : zT} {d : Nat} {t : Nat → Int32} {n N m : Nat} {B : Nat × Nat × Nat × Nat × Nat} {C : Nat × Nat × Nat × Nat} {W : Wld} {σ τ υ : Sg} {K : kS} {vs : List (List Int32)} {R : HR}
theorem BdS.abs {p q r : Nat} {es : Evs} (h : BdS t n N vs (.inr (p, es ++ [(q, r)])) σ) (he : ∃ e ∈ es, e.1 < q ∨ (e.1 = q ∧ e.2 ≤ r)) : BdS t n N vs (.inr (p, es)) σ := by
  obtain ⟨b1, b2, ru, hev⟩ := h
  refine ⟨b1, b2, ?_, fun x hx => hev x (List.mem_append_left _ hx)⟩
  obtain ⟨e, e1, e2⟩ := he
  obtain ⟨v, v1, v2⟩ := lsE_le _ es rfl e e1
  unfold RuC at ru ⊢
  rw [lsE_abs v1 (by show v.1 < q ∨ (v.1 = q ∧ v.2 ≤ r); omega)] at ru
  rw [v1]
  exact ru
/-- a comparison as two terms -/
theorem cm_tm {env : Env} {p k : Nat} (h : ¬ (tyS t n p = 2 ∧ tyS t n (nxS t n p) = 33)) : pCm t n env vs p k = match pTm t n vs p with
    | .inl q => .inl q
    | .inr (p1, e1, pa, mo) => if tyS t n p1 = 15 ∨ tyS t n p1 = 17 ∨ tyS t n p1 = 16 then (match pTm t n vs (nxS t n p1) with
      | .inl q => .inl q
      | .inr (p2, e2, pb, b) => .inr (p2, k + 1, e1 ++ ctE k p ++ e2, aN 8 (tyS t n p1) pa (.nest pb (.nest (mo - b) .nil)) .nil .nil)) else .inl p1 := by
  have c2 : ∀ p1 e1 pa mo, pC2 t n vs p1 k p e1 pa mo = if tyS t n p1 = 15 ∨ tyS t n p1 = 17 ∨ tyS t n p1 = 16 then (match pTm t n vs (nxS t n p1) with
      | .inl q => .inl q
      | .inr (p2, e2, pb, b) => .inr (p2, k + 1, e1 ++ ctE k p ++ e2, aN 8 (tyS t n p1) pa (.nest pb (.nest (mo - b) .nil)) .nil .nil)) else .inl p1 := fun p1 e1 pa mo => by
    unfold pC2 pTm
    by_cases y : tyS t n p1 = 15 ∨ tyS t n p1 = 17 ∨ tyS t n p1 = 16
    · rw [if_pos y, if_pos y]
      by_cases z : tyS t n (nxS t n p1) = 2
      · rw [if_pos z, if_pos z]
        cases pBh t n (nxS t n (nxS t n p1)) with
        | inl q => rfl
        | inr x => rfl
      · rw [if_neg z, if_neg z]
        cases pSg t n (nxS t n p1) with
        | inl q => rfl
        | inr x =>
          dsimp only
          rw [List.append_nil]
    · rw [if_neg y, if_neg y]
  unfold pCm
  by_cases y : tyS t n p = 2
  · rw [if_pos y, if_neg (fun z => h ⟨y, z⟩)]
    have e : pTm t n vs p = match pBh t n (nxS t n p) with
      | .inl q => .inl q
      | .inr (b, p2) => .inr (p2, spE vs (nmS t n p) p, spV vs (nmS t n p), b) := if_pos y
    rw [e]
    cases pBh t n (nxS t n p) with
    | inl q => rfl
    | inr x => exact c2 _ _ _ _
  · rw [if_neg y]
    have e : pTm t n vs p = match pSg t n p with
      | .inl q => .inl q
      | .inr (a, p1) => .inr (p1, [], -1, a) := if_neg y
    rw [e]
    cases pSg t n p with
    | inl q => rfl
    | inr x => exact c2 _ _ _ _
/-- the end of a comparison: the test is put down, with any events -/
theorem cm_end {es es2 : Evs} {lv : List Ast} {so le ri : Int32} {bo : Int64} {x : Ast} (hB : HB t n N B C W σ) (hm : m < 122) (h : BdS t n N vs R σ) (T : TqS m es lv σ) (hc : es2 = [] → es = [] ∧ lv.length < 6) (hx : es2 = [] → lvT x = [x] ∧ ∀ τ : Sg, τ.i 19 (6 * m + lv.length) = so → τ.i 20 (6 * m + lv.length) = le → τ.i 21 (6 * m + lv.length) = ri → τ.l 22 (6 * m + lv.length) = bo → LfC τ (6 * m + lv.length) x) (k : ∀ τ (v : Nat), v ≤ 5 → (es2 = [] → v = lv.length) → TtF m σ τ → BdS t n N vs R τ → TqS m es2 (lv ++ lvT x) τ → τ.i 40 10 = σ.i 40 10 → K (.inl (some (.int (Int32.ofNat v)))) τ) : C_X5_addTest_0 Z (d + 1) σ (Int32.ofNat m) so le ri bo K := by
  have T2 : TqS m (if es2 = [] then [] else [(0, 1)]) lv σ := T.se (fun z => by
    by_cases y : es2 = []
    · exact ⟨(hc y).1, rfl⟩
    · rw [if_neg y] at z
      cases z)
  have e2 : (if es2 = [] then ([] : Evs) else [(0, 1)]) = [] ↔ es2 = [] := by
    by_cases y : es2 = []
    · rw [if_pos y]
      exact ⟨fun _ => y, fun _ => rfl⟩
    · rw [if_neg y]
      exact ⟨fun z => (by cases z), fun z => absurd z y⟩
  refine cl_addT (t := t) (n := n) (N := N) hB.1 hm T2 (fun z => (hc (e2.mp z)).2) (fun τ v v1 v2 f b g gx q => k τ v v1 (fun z => v2 (e2.mpr z)) f (b _ _ h) ?_ (g 40 10 (by decide) (by decide) (by decide) (by decide)))
  obtain ⟨y, y1, y2⟩ := gx
  refine ⟨y, y1, y2, fun z => ?_⟩
  obtain ⟨q1, q2, q3, q4, q5, q6⟩ := q (e2.mpr z)
  obtain ⟨hx1, hx2⟩ := hx z
  have l6 := (hc z).2
  have ey : y = lv.length + 1 := by
    rw [q1] at y2
    exact ((oN_eq (by omega) (by omega)).mp y2).symm
  rw [hx1, List.length_append, List.length_singleton]
  refine ⟨ey, fun j l hl => ?_⟩
  by_cases w : j < lv.length
  · rw [List.getElem?_append_left w] at hl
    exact q2 j l hl
  · have hk := (List.getElem?_eq_some_iff.mp hl).1
    rw [List.length_append, List.length_singleton] at hk
    have e : j = lv.length := by omega
    subst e
    rw [List.getElem?_append_right (Nat.le_refl _), Nat.sub_self] at hl
    have e : x = l := Option.some.inj hl
    subst e
    exact hx2 τ q3 q4 q5 q6
end CM2

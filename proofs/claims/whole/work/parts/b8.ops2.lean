/-! THE CLASS: reading; rules broken, nodes, code -/
section OPS2
variable {Z : zT} {d : Nat} {t : Nat → Int32} {n N : Nat} {B : Nat × Nat × Nat × Nat × Nat} {C : Nat × Nat × Nat × Nat} {W : Wld} {w : Int} {S : Nat} {σ0 : Sg} {vs : List (List Int32)} {R : RR} {σ τ : Sg} {K : kS}
/-- only the rules are written -/
def BrF (σ τ : Sg) : Prop := τ.sh = σ.sh ∧ τ.r = σ.r ∧ τ.l = σ.l ∧ ∀ a k, ¬ (a = 40 ∧ (k = 5 ∨ k = 6)) → τ.i a k = σ.i a k
theorem BrF.refl (σ : Sg) : BrF σ σ := ⟨rfl, rfl, rfl, fun _ _ _ => rfl⟩
theorem BrF.ww (σ : Sg) (x y : Int32) : BrF σ ((σ.wi 40 5 x).wi 40 6 y) := ⟨rfl, rfl, rfl, fun a k q => (wi_ne (by omega)).trans (wi_ne (by omega))⟩
theorem BrF.rd (h : BrF σ τ) : RdF S C.2.1 C.2.2.1 C.2.2.2 σ τ := ⟨h.1, h.2.1, fun a k q => h.2.2.2 a k (fun z => q (by unfold rdI; omega)), fun a k _ => by rw [h.2.2.1]⟩
theorem lsA_some (o : Option (Nat × Nat)) (e : Nat × Nat) : lsA o e = match o with
  | none => some e
  | some w => if e.1 < w.1 ∨ (e.1 = w.1 ∧ e.2 < w.2) then some e else some w := rfl
theorem lsE_le : ∀ (r : List (Nat × Nat)) (es : Evs), es.reverse = r → ∀ e ∈ es, ∃ v, lsE es = some v ∧ (v.1 < e.1 ∨ (v.1 = e.1 ∧ v.2 ≤ e.2))
  | [], es, hr, e, he => by
    have : es = [] := List.reverse_eq_nil_iff.mp hr
    rw [this] at he
    cases he
  | x :: r, es, hr, e, he => by
    have hes : es = r.reverse ++ [x] := by
      have := congrArg List.reverse hr
      rw [List.reverse_reverse, List.reverse_cons] at this
      exact this
    have ih := lsE_le r r.reverse (List.reverse_reverse r)
    rw [hes] at he ⊢
    rw [lsE_snoc, lsA_some]
    rcases List.mem_append.mp he with q | q
    · obtain ⟨v, v1, v2⟩ := ih e q
      rw [v1]
      dsimp only
      split
      · exact ⟨x, rfl, by omega⟩
      · exact ⟨v, rfl, v2⟩
    · rw [List.mem_singleton] at q
      rw [q]
      cases hl : lsE r.reverse with
      | none => exact ⟨x, rfl, Or.inr ⟨rfl, Nat.le_refl _⟩⟩
      | some v =>
        dsimp only
        split
        · exact ⟨x, rfl, Or.inr ⟨rfl, Nat.le_refl _⟩⟩
        · exact ⟨v, rfl, by omega⟩
theorem cl_brkD {j rule : Nat} (cb : CBs t n N B C W w S σ0 σ) (hj : j ≤ N) (k : ∀ τ, BrF σ τ → K (.inl none) τ) : C_X7_breakRule_0 Z (d + 1) σ (Int32.ofNat rule) (Int32.ofNat j) K := by
  obtain ⟨f, sa, ss, ⟨nn, hN⟩, -⟩ := cb
  have hc := sa.2.2.2.2.2.2.2.2.2
  refine T_X7_breakRule_0 f ⟨_, sa.2.1.1, _, sa.2.1.2, ib_oN (by omega) (by omega), fun _ => k _ (BrF.ww _ _ _), fun _ => ⟨fun _ => k _ (BrF.ww _ _ _), fun _ => ⟨fun _ => k _ (BrF.refl _), fun _ => ⟨fun _ => k _ (BrF.refl _), fun _ => k _ (BrF.ww _ _ _)⟩⟩⟩⟩
theorem cl_brkL {j rule : Nat} {es : Evs} (cb : CBs t n N B C W w S σ0 σ) (ru : RuC es σ) (he : ∀ e ∈ es, e.1 ≤ n ∧ 1 ≤ e.2 ∧ e.2 ≤ 7) (hj : j ≤ N) (hr : 1 ≤ rule ∧ rule ≤ 7) (k : ∀ τ, BrF σ τ → RuC (es ++ [(sgP t n j, rule)]) τ → K (.inl none) τ) : C_X7_breakRule_0 Z (d + 1) σ (Int32.ofNat rule) (Int32.ofNat j) K := by
  obtain ⟨f, sa, ss, ⟨nn, hN⟩, -⟩ := cb
  have hc := sa.2.2.2.2.2.2.2.2.2
  have hp := sgP_le t n j
  refine T_X7_breakRule_0 f ⟨_, sa.2.1.1, _, sa.2.1.2, ?_⟩
  rw [oN_t (by omega), (ss.2.1 j hj).2.1]
  have wr : lsE (es ++ [(sgP t n j, rule)]) = some (sgP t n j, rule) → K (.inl none) ((σ.wi 40 5 (Int32.ofNat (sgP t n j))).wi 40 6 (Int32.ofNat rule)) := fun y => k _ (BrF.ww _ _ _) (by
    unfold RuC
    rw [y]
    exact ⟨(wi_ne (by decide)).trans wi_eq, wi_eq⟩)
  have st : lsE (es ++ [(sgP t n j, rule)]) = lsE es → K (.inl none) σ := fun y => k _ (BrF.refl _) (by
    unfold RuC
    rw [y]
    exact ru)
  have live : (lsE es = none ∧ σ.i 40 6 = 0) ∨ ∃ v : Nat × Nat, lsE es = some v ∧ σ.i 40 5 = Int32.ofNat v.1 ∧ σ.i 40 6 = Int32.ofNat v.2 ∧ v.1 ≤ n ∧ 1 ≤ v.2 ∧ v.2 ≤ 7 := by
    unfold RuC at ru
    cases hl : lsE es with
    | none =>
      rw [hl] at ru
      exact Or.inl ⟨rfl, ru.2⟩
    | some v =>
      rw [hl] at ru
      have := he v (lsE_mem es v hl)
      exact Or.inr ⟨v, rfl, ru.1, ru.2, this.1, this.2.1, this.2.2⟩
  refine ⟨ib_oN (by omega) (by omega), fun z => wr ?_, fun z => ⟨fun z2 => wr ?_, fun z2 => ⟨fun z3 => st ?_, fun z3 => ⟨fun z4 => st ?_, fun z4 => wr ?_⟩⟩⟩⟩
  · rcases live with ⟨l1, l2⟩ | ⟨v, l1, l2, l3, l4, l5, l6⟩
    · rw [lsE_snoc, l1]
      rfl
    · rw [l3] at z
      have := (oN_eq (b := 0) (by omega) (by decide)).mp z
      omega
  · rcases live with ⟨l1, l2⟩ | ⟨v, l1, l2, l3, l4, l5, l6⟩
    · exact absurd l2 z
    · rw [l2, oN_lt (by omega) (by omega)] at z2
      rw [lsE_snoc, l1, lsA_some]
      exact if_pos (Or.inl z2)
  · rcases live with ⟨l1, l2⟩ | ⟨v, l1, l2, l3, l4, l5, l6⟩
    · exact absurd l2 z
    · rw [l2, oN_lt (by omega) (by omega)] at z2
      rw [l2, oN_eq (by omega) (by omega)] at z3
      rw [lsE_snoc, l1, lsA_some]
      exact if_neg (by dsimp only; omega)
  · rcases live with ⟨l1, l2⟩ | ⟨v, l1, l2, l3, l4, l5, l6⟩
    · exact absurd l2 z
    · rw [l2, oN_eq (by omega) (by omega)] at z3
      rw [l3, oN_le (by omega) (by omega)] at z4
      rw [lsE_snoc, l1, lsA_some]
      exact if_neg (by dsimp only; omega)
  · rcases live with ⟨l1, l2⟩ | ⟨v, l1, l2, l3, l4, l5, l6⟩
    · exact absurd l2 z
    · rw [l2, oN_eq (by omega) (by omega)] at z3
      rw [l3, oN_le (by omega) (by omega)] at z4
      rw [lsE_snoc, l1, lsA_some]
      exact if_pos (by dsimp only; omega)
/-- rules more -/
theorem CSt.ru {p c : Nat} {es es' : Evs} {L : Cd} {b : Nat} (h : CSt t n N B C W w S σ0 vs (.inr (p, c, es, L, b)) σ) (g : BrF σ τ) (hr : RuC es' τ) (h0 : es' = [] → es = []) (hb : ∀ e ∈ es', e.1 ≤ n ∧ 1 ≤ e.2 ∧ e.2 ≤ 7) (h3 : 300 < c → ∃ e ∈ es', e.1 ≤ p) : CSt t n N B C W w S σ0 vs (.inr (p, c, es', L, b)) τ := by
  obtain ⟨cb, ⟨⟨i, i1, i2, i3⟩, h4⟩, ⟨x, x1, x2, x3⟩, ⟨v1, v2, v3⟩, ⟨c1, c2, c3⟩, ru, hev⟩ := h
  obtain ⟨-, -, -, -, y0, y1, y2, -⟩ := cb.2.2.2.2.1
  have gi := g.2.2.2
  exact ⟨cb.rd g.rd, ⟨⟨i, i1, (gi 40 3 (by omega)).trans i2, i3⟩, (gi 40 4 (by omega)).trans h4⟩, ⟨x, x1, (gi 24 3 (by omega)).trans x2, fun z => ⟨(x3 (h0 z)).1, (x3 (h0 z)).2.1, (x3 (h0 z)).2.2.keep (funext fun k => gi _ k (by omega)) (funext fun k => gi _ k (by omega)) (funext fun k => gi _ k (by omega))⟩⟩, ⟨(gi 28 3 (by omega)).trans v1, v2, v3.keep (fun k _ => by rw [g.2.2.1]; exact ⟨rfl, rfl⟩)⟩, ⟨(gi 40 9 (by omega)).trans c1, c2, h3⟩, hr, hb⟩
theorem CSt.br0 {q : Nat} (h : CSt t n N B C W w S σ0 vs (.inl q) σ) (g : BrF σ τ) : CSt t n N B C W w S σ0 vs (.inl q) τ := by
  obtain ⟨cb, ⟨h3, h4, h5⟩, ⟨x, x1, x2⟩, h6, h7⟩ := h
  have gi := g.2.2.2
  exact ⟨cb.rd g.rd, ⟨(gi 40 3 (by omega)).trans h3, (gi 40 4 (by omega)).trans h4, h5⟩, ⟨x, x1, (gi 24 3 (by omega)).trans x2⟩, (gi 28 3 (by omega)).trans h6, h7⟩
theorem cl_break {j rule : Nat} (h : CSt t n N B C W w S σ0 vs R σ) (hj : j ≤ N) (hr : 1 ≤ rule ∧ rule ≤ 7) (k : ∀ τ, CSt t n N B C W w S σ0 vs (evR [(sgP t n j, rule)] R) τ → K (.inl none) τ) : C_X7_breakRule_0 Z (d + 1) σ (Int32.ofNat rule) (Int32.ofNat j) K := by
  rcases R with q | ⟨p, c, es, L, b⟩
  · exact cl_brkD h.cb hj (fun τ g => k τ (h.br0 g))
  · refine cl_brkL h.cb h.2.2.2.2.2.1 h.2.2.2.2.2.2 hj hr (fun τ g ru => k τ (h.ru g ru (fun z => absurd z (by simp)) (fun e he => ?_) (fun z => ?_)))
    · rcases List.mem_append.mp he with q | q
      · exact h.2.2.2.2.2.2 e q
      · rw [List.mem_singleton] at q
        rw [q]
        exact ⟨sgP_le t n j, hr⟩
    · obtain ⟨e, e1, e2⟩ := h.2.2.2.2.1.2.2 z
      exact ⟨e, List.mem_append_left _ e1, e2⟩
end OPS2

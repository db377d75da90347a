/-! THE CLASS: reading; code -/
section OPS4
variable {Z : zT} {d : Nat} {t : Nat → Int32} {n N : Nat} {B : Nat × Nat × Nat × Nat × Nat} {C : Nat × Nat × Nat × Nat} {W : Wld} {w : Int} {S : Nat} {σ0 : Sg} {vs : List (List Int32)} {R : RR} {σ τ : Sg} {K : kS}
/-- only code is written -/
def CoF (S c0 c1 c2 : Nat) (σ τ : Sg) : Prop := τ.sh = σ.sh ∧ τ.r = σ.r ∧ τ.l = σ.l ∧ ∀ a k, ¬ (a = 24 ∧ k = 3) → ¬ ((a = c0 ∨ a = c1 ∨ a = c2) ∧ S ≤ k ∧ k ≤ S + 901) → τ.i a k = σ.i a k
theorem CoF.rd {c0 c1 c2 : Nat} (h : CoF S c0 c1 c2 σ τ) : RdF S c0 c1 c2 σ τ := ⟨h.1, h.2.1, fun a k q => h.2.2.2 a k (fun z => q (by unfold rdI; omega)) (fun z => q (by unfold rdI; omega)), fun a k _ => by rw [h.2.2.1]⟩
theorem CSt.co {f : Cd → Nat → Cd × Nat} {x : Nat} (h : CSt t n N B C W w S σ0 vs R σ) (g : CoF S C.2.1 C.2.2.1 C.2.2.2 σ τ) (hx : x ≤ 901) (e3 : τ.i 24 3 = Int32.ofNat (S + x)) (hf : ∀ p c L b, R = .inr (p, c, [], L, b) → x = (f L b).1.length ∧ (f L b).1.length ≤ 3 * c ∧ CdS S C.2.1 C.2.2.1 C.2.2.2 (f L b).1 (f L b).2 τ) : CSt t n N B C W w S σ0 vs (bdR R fun p c es L b => .inr (p, c, es, (f L b).1, (f L b).2)) τ := by
  have cb := h.cb
  obtain ⟨-, -, -, -, y0, y1, y2, -⟩ := cb.2.2.2.2.1
  have wn : ∀ a k, a < 100 → a ≠ 24 → a ≠ 25 → a ≠ 26 → a ≠ 27 → τ.i a k = σ.i a k := fun a k q q1 q2 q3 q4 => g.2.2.2 a k (by omega) (by omega)
  have cb' : CBs t n N B C W w S σ0 τ := cb.rd g.rd
  rcases R with q | ⟨p, c, es, L, b⟩
  · obtain ⟨-, ⟨h3, h4, h5⟩, -, h6, h7⟩ := h
    exact ⟨cb', ⟨(wn 40 3 (by decide) (by decide) (by decide) (by decide) (by decide)).trans h3, (wn 40 4 (by decide) (by decide) (by decide) (by decide) (by decide)).trans h4, h5⟩, ⟨x, hx, e3⟩, (wn 28 3 (by decide) (by decide) (by decide) (by decide) (by decide)).trans h6, h7⟩
  · obtain ⟨-, ⟨⟨i, i1, i2, i3⟩, h4⟩, -, ⟨v1, v2, v3⟩, ⟨c1, c2, c3⟩, ru, hev⟩ := h
    have ru' : RuC es τ := by
      unfold RuC at ru ⊢
      rw [wn 40 5 (by decide) (by decide) (by decide) (by decide) (by decide), wn 40 6 (by decide) (by decide) (by decide) (by decide) (by decide)]
      exact ru
    exact ⟨cb', ⟨⟨i, i1, (wn 40 3 (by decide) (by decide) (by decide) (by decide) (by decide)).trans i2, i3⟩, (wn 40 4 (by decide) (by decide) (by decide) (by decide) (by decide)).trans h4⟩, ⟨x, hx, e3, fun z => hf p c L b (by rw [z])⟩, ⟨(wn 28 3 (by decide) (by decide) (by decide) (by decide) (by decide)).trans v1, v2, v3.keep (fun k _ => by rw [g.2.2.1]; exact ⟨rfl, rfl⟩)⟩, ⟨(wn 40 9 (by decide) (by decide) (by decide) (by decide) (by decide)).trans c1, c2, c3⟩, ru', hev⟩
/-- where code goes on, and what stands there -/
theorem CSt.live {p c : Nat} {L : Cd} {b x : Nat} (h : CSt t n N B C W w S σ0 vs (.inr (p, c, [], L, b)) σ) (hx : x ≤ 901) (e3 : σ.i 24 3 = Int32.ofNat (S + x)) : x = L.length ∧ L.length ≤ 3 * c ∧ c ≤ 300 ∧ CdS S C.2.1 C.2.2.1 C.2.2.2 L b σ := by
  have hS := h.cb.2.2.2.2.2.1.2
  obtain ⟨-, -, -, -, -, -, -, hy⟩ := h.cb.2.2.2.2.1
  obtain ⟨x', x1, x2, x3⟩ := h.2.2.1
  obtain ⟨q1, q2, q3⟩ := x3 rfl
  have c3 := h.2.2.2.2.1.2.2
  rw [e3, oN_eq (by omega) (by omega)] at x2
  refine ⟨by omega, q2, ?_, q3⟩
  by_cases z : 300 < c
  · obtain ⟨e, e1, -⟩ := c3 z
    cases e1
  · omega
theorem emA_keep {c0 c1 c2 : Nat} {x : Nat} {o a : Int32} {L : Cd} {b : Nat} (hc : CdS S c0 c1 c2 L b σ) (ex : x = L.length) (h0 : τ.i c0 = (σ.wi c0 (S + x) o).i c0) (h1 : τ.i c1 = (σ.wi c1 (S + x) a).i c1) (h2 : τ.i c2 = (σ.wi c2 (S + x + 1) 0).i c2) : CdS S c0 c1 c2 (L ++ [(o, a, b)]) 0 τ := by
  refine ⟨fun j q hq => ?_, ?_⟩
  · rw [h0, h1, h2]
    by_cases z : j < L.length
    · rw [List.getElem?_append_left z] at hq
      obtain ⟨a1, a2, a3⟩ := hc.1 j q hq
      exact ⟨(wi_ne (by omega)).trans a1, (wi_ne (by omega)).trans a2, (wi_ne (by omega)).trans a3⟩
    · have hl := (List.getElem?_eq_some_iff.mp hq).1
      rw [List.length_append] at hl
      have hl : j < L.length + 1 := hl
      have ej : j = x := by omega
      rw [ej, ex, List.getElem?_append_right (Nat.le_refl _), Nat.sub_self] at hq
      have hq : (o, a, b) = q := Option.some.inj hq
      subst ej
      rw [← hq]
      refine ⟨wi_eq, wi_eq, (wi_ne (by omega)).trans ?_⟩
      rw [ex]
      exact hc.2
  · rw [h2, List.length_append]
    show (σ.wi c2 (S + x + 1) 0).i c2 (S + (L.length + 1)) = _
    rw [← ex, ← Nat.add_assoc, wi_eq]
    rfl
theorem cl_emit {o a : Int32} (h : CSt t n N B C W w S σ0 vs R σ) (hs : ∀ p c L b, R = .inr (p, c, [], L, b) → L.length + 1 ≤ 3 * c) (k : ∀ τ, CSt t n N B C W w S σ0 vs (emR o a R) τ → K (.inl none) τ) : C_X1_emit_0 Z (d + 1) σ o a K := by
  obtain ⟨x, x1, x2, -⟩ := h.at
  have cb := h.cb
  have ca := cb.2.2.2.2.1
  obtain ⟨e4, hS⟩ := cb.2.2.2.2.2.1
  obtain ⟨⟨z1, z2⟩, ⟨z3, z4⟩, ⟨z5, z6⟩, ⟨m1, m2, m3⟩, y0, y1, y2, hy⟩ := ca
  have w0 : ∀ v : Int32, (σ.wi C.2.1 (S + x) v).i 24 3 = σ.i 24 3 := fun v => wi_ne (by omega)
  have w1 : ∀ v u : Int32, ((σ.wi C.2.1 (S + x) v).wi C.2.2.1 (S + x) u).i 24 3 = σ.i 24 3 := fun v u => (wi_ne (by omega)).trans (wi_ne (by omega))
  refine T_X1_emit_0 h.fx ?_
  rw [e4, x2, oN_le (by omega) (by omega), oN_t (by omega)]
  refine ⟨fun z => k _ ?_, fun z => ⟨_, z1, _, z2, ib_oN (by omega) (by omega), _, z3, _, z4, ?_⟩⟩
  · refine CSt.co (f := fun L b => (L ++ [(o, a, b)], 0)) (x := x) h ⟨rfl, rfl, rfl, fun _ _ _ _ => rfl⟩ x1 x2 (fun p c L b e => ?_)
    have h' := h
    rw [e] at h'
    have := h'.live x1 x2
    have := hs p c L b e
    omega
  · rw [w0, x2, oN_t (by omega)]
    refine ⟨ib_oN (by omega) (by omega), _, z5, _, z6, ?_⟩
    rw [w1, x2, oN_1, oN_t (by omega)]
    refine ⟨ib_oN (by omega) (by omega), k _ ?_⟩
    refine CSt.co (f := fun L b => (L ++ [(o, a, b)], 0)) (x := x + 1) h ⟨rfl, rfl, rfl, fun a' k' q1 q2 => (wi_ne (by omega)).trans ((wi_ne (by omega)).trans ((wi_ne (by omega)).trans (wi_ne (by omega))))⟩ (by omega) ((wi_ne (by omega)).trans wi_eq) (fun p c L b e => ?_)
    have h' := h
    rw [e] at h'
    obtain ⟨q1, q2, q3, q4⟩ := h'.live x1 x2
    have := hs p c L b e
    have el : (L ++ [(o, a, b)]).length = L.length + 1 := List.length_append
    refine ⟨by show x + 1 = (L ++ [(o, a, b)]).length; omega, by show (L ++ [(o, a, b)]).length ≤ _; omega, emA_keep q4 q1 (funext fun k' => ?_) (funext fun k' => ?_) (funext fun k' => ?_)⟩
    · exact (wi_ne (by omega)).trans ((wi_ne (by omega)).trans (wi_ne (by omega)))
    · rw [wi_ne (by omega), wi_ne (by omega)]
      by_cases zz : k' = S + x
      · rw [zz, wi_eq, wi_eq]
      · exact (wi_ne (by omega)).trans ((wi_ne (by omega)).trans (wi_ne (by omega)).symm)
    · by_cases zz : k' = S + x + 1
      · rw [zz, Nat.add_assoc, wi_eq, wi_eq]
      · exact (wi_ne (by omega)).trans ((wi_ne (by omega)).trans ((wi_ne (by omega)).trans ((wi_ne (by omega)).trans (wi_ne (by omega)).symm)))
/-- code at x0 goes on where code stands now -/
theorem cl_aim {x0 f : Nat} (h : CSt t n N B C W w S σ0 vs R σ) (hx : x0 ≤ 901) (hf : ∀ p c L b, R = .inr (p, c, [], L, b) → x0 = f ∧ f < L.length) (k : ∀ τ, CSt t n N B C W w S σ0 vs (amR S f R) τ → K (.inl none) τ) : C_X1_aim_0 Z (d + 1) σ (Int32.ofNat (S + x0)) (σ.i 24 3) K := by
  obtain ⟨x, x1, x2, -⟩ := h.at
  have cb := h.cb
  have ca := cb.2.2.2.2.1
  obtain ⟨e4, hS⟩ := cb.2.2.2.2.2.1
  obtain ⟨⟨z1, z2⟩, ⟨z3, z4⟩, ⟨z5, z6⟩, ⟨m1, m2, m3⟩, y0, y1, y2, hy⟩ := ca
  refine T_X1_aim_0 h.fx ?_
  rw [e4, oN_le (by omega) (by omega), oN_t (by omega)]
  refine ⟨fun z => k _ ?_, fun z => ⟨_, z3, _, z4, ib_oN (by omega) (by omega), k _ ?_⟩⟩
  · refine CSt.co (f := fun L b => (agA f (Int32.ofNat (S + L.length)) L, b)) (x := x) h ⟨rfl, rfl, rfl, fun _ _ _ _ => rfl⟩ x1 x2 (fun p c L b e => ?_)
    have h' := h
    rw [e] at h'
    have := h'.live x1 x2
    have := hf p c L b e
    omega
  · refine CSt.co (f := fun L b => (agA f (Int32.ofNat (S + L.length)) L, b)) (x := x) h ⟨rfl, rfl, rfl, fun a' k' q1 q2 => wi_ne (by omega)⟩ x1 ((wi_ne (by omega)).trans x2) (fun p c L b e => ?_)
    have h' := h
    rw [e] at h'
    obtain ⟨q1, q2, q3, q4⟩ := h'.live x1 x2
    obtain ⟨f1, f2⟩ := hf p c L b e
    subst f1
    have bl : (agA x0 (Int32.ofNat (S + L.length)) L).length = L.length := List.length_modify ..
    refine ⟨q1.trans bl.symm, by show (agA x0 (Int32.ofNat (S + L.length)) L).length ≤ _; omega, fun j q hq => ?_, ?_⟩
    · have hq : (agA x0 (Int32.ofNat (S + L.length)) L)[j]? = some q := hq
      unfold agA at hq
      rw [List.getElem?_modify] at hq
      cases hL : L[j]? with
      | none =>
        rw [hL] at hq
        cases hq
      | some q0 =>
        rw [hL] at hq
        have e0 : (if x0 = j then (q0.1, Int32.ofNat (S + L.length), q0.2.2) else q0) = q := Option.some.inj hq
        obtain ⟨a1, a2, a3⟩ := q4.1 j q0 hL
        by_cases y : x0 = j
        · rw [if_pos y] at e0
          subst y
          rw [← e0]
          exact ⟨(wi_ne (by omega)).trans a1, by rw [wi_eq, x2, q1], (wi_ne (by omega)).trans a3⟩
        · rw [if_neg y] at e0
          rw [← e0]
          exact ⟨(wi_ne (by omega)).trans a1, (wi_ne (by omega)).trans a2, (wi_ne (by omega)).trans a3⟩
    · show (σ.wi C.2.2.1 (S + x0) (σ.i 24 3)).i C.2.2.2 (S + (agA x0 (Int32.ofNat (S + L.length)) L).length) = _
      rw [bl]
      exact (wi_ne (by omega)).trans q4.2
end OPS4

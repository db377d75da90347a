/-! THE CLASS: reading arguments; the node they make -/
section AG3
variable {t : Nat → Int32} {n S most : Nat} {e : Pf} {vs : List (List Int32)} {es0 : Evs}
theorem ag_es : ∀ f p c es l p' c' l', pAr t n e most vs f p c es l = .inr (p', c', [], l') → es = []
  | 0, p, c, es, l, p', c', l', h => by
    rw [pAr] at h
    cases h
  | f + 1, p, c, es, l, p', c', l', h => by
    rw [pAr] at h
    cases hh : e vs (nxS t n p) c with
    | inl q =>
      rw [hh] at h
      cases h
    | inr y =>
      obtain ⟨p2, c2, es2, x⟩ := y
      rw [hh] at h
      dsimp only at h
      by_cases z : tyS t n p2 = 6
      · rw [if_pos z] at h
        have := ag_es f _ _ _ _ _ _ _ h
        exact (List.append_eq_nil_iff.mp (List.append_eq_nil_iff.mp this).1).1
      · rw [if_neg z] at h
        by_cases z5 : tyS t n p2 = 5
        · rw [if_pos z5] at h
          have h := Sum.inr.inj h
          have h3 : es ++ (if 0 < most ∧ l.length = most then [(nxS t n p, 4)] else []) ++ es2 ++ (if 0 < most ∧ l.length + 1 < most then [(p2, 4)] else []) = [] := congrArg (fun q : Nat × Nat × Evs × List Ast => q.2.2.1) h
          exact (List.append_eq_nil_iff.mp (List.append_eq_nil_iff.mp (List.append_eq_nil_iff.mp h3).1).1).1
        · rw [if_neg z5] at h
          cases h
theorem ife_nil {c0 : Prop} [Decidable c0] {x : Nat × Nat} (h : (if c0 then [x] else []) = ([] : Evs)) : ¬ c0 := fun z => by
  rw [if_pos z] at h
  cases h
theorem ag_len (hm : 0 < most) : ∀ f p c es l p' c' l', pAr t n e most vs f p c es l = .inr (p', c', [], l') → l.length ≤ most → l'.length = most
  | 0, p, c, es, l, p', c', l', h, _ => by
    rw [pAr] at h
    cases h
  | f + 1, p, c, es, l, p', c', l', h, hl => by
    rw [pAr] at h
    cases hh : e vs (nxS t n p) c with
    | inl q =>
      rw [hh] at h
      cases h
    | inr y =>
      obtain ⟨p2, c2, es2, x⟩ := y
      rw [hh] at h
      dsimp only at h
      by_cases z : tyS t n p2 = 6
      · rw [if_pos z] at h
        have := ag_es f _ _ _ _ _ _ _ h
        have := ife_nil (List.append_eq_nil_iff.mp (List.append_eq_nil_iff.mp this).1).2
        exact ag_len hm f _ _ _ _ _ _ _ h (by rw [List.length_append, List.length_singleton]; omega)
      · rw [if_neg z] at h
        by_cases z5 : tyS t n p2 = 5
        · rw [if_pos z5] at h
          have h := Sum.inr.inj h
          have h3 : es ++ (if 0 < most ∧ l.length = most then [(nxS t n p, 4)] else []) ++ es2 ++ (if 0 < most ∧ l.length + 1 < most then [(p2, 4)] else []) = [] := congrArg (fun q : Nat × Nat × Evs × List Ast => q.2.2.1) h
          have h4 : l ++ [x] = l' := congrArg (fun q : Nat × Nat × Evs × List Ast => q.2.2.2) h
          have q1 := ife_nil (List.append_eq_nil_iff.mp h3).2
          have q2 := ife_nil (List.append_eq_nil_iff.mp (List.append_eq_nil_iff.mp (List.append_eq_nil_iff.mp h3).1).1).2
          rw [← h4, List.length_append, List.length_singleton]
          omega
        · rw [if_neg z5] at h
          cases h
def agO (op : Nat) (v : Int) : Int32 × Int32 × Nat := if op = 13 then (2, Int32.ofInt v, 0) else if op = 14 then (22, Int32.ofInt v, 0) else (24, 0, 0)
theorem cd_ag {op : Nat} (hop : op = 13 ∨ op = 14 ∨ op = 15) (v : Int) (a b c : Ast) (S k : Nat) : cdB (aN op v 1 a b c) false S k = cdB a false S (k + 1) ++ [] ++ [agO op v] ∧ cdB (aN op v 2 a b c) false S k = cdB a false S (k + 1) ++ (cdB b false (S + (cdB a false S (k + 1)).length) 0 ++ []) ++ [agO op v] ∧ cdB (aN op v 3 a b c) false S k = cdB a false S (k + 1) ++ (cdB b false (S + (cdB a false S (k + 1)).length) 0 ++ cdB c false (S + (cdB a false S (k + 1)).length + (cdB b false (S + (cdB a false S (k + 1)).length) 0).length) 0) ++ [agO op v] := by
  rcases hop with z | z | z
  · subst z
    exact ⟨rfl, rfl, rfl⟩
  · subst z
    exact ⟨rfl, rfl, rfl⟩
  · subst z
    exact ⟨rfl, rfl, rfl⟩
theorem ag_code {op : Nat} (hop : op = 13 ∨ op = 14 ∨ op = 15) (v : Int) (S : Nat) (L : Cd) (b : Nat) (l : List Ast) (h : 1 ≤ l.length ∧ l.length ≤ 3) : (l.foldl (agS S) (L, b + 1)).1 ++ [((agO op v).1, (agO op v).2.1, (l.foldl (agS S) (L, b + 1)).2)] = L ++ cdB (aN op v l.length (l.getD 0 .nil) (l.getD 1 .nil) (l.getD 2 .nil)) false (S + L.length) b := by
  have e0 : ((agO op v).1, (agO op v).2.1, 0) = agO op v := by
    rcases hop with z | z | z
    · subst z
      rfl
    · subst z
      rfl
    · subst z
      rfl
  match l, h with
  | [], h => exact absurd h.1 (by decide)
  | [x], _ =>
    show L ++ cdB x false (S + L.length) (b + 1) ++ [((agO op v).1, (agO op v).2.1, 0)] = L ++ cdB (aN op v 1 x .nil .nil) false (S + L.length) b
    rw [e0, (cd_ag hop v x .nil .nil (S + L.length) b).1]
    simp only [List.append_assoc, List.append_nil]
  | [x, y], _ =>
    show L ++ cdB x false (S + L.length) (b + 1) ++ cdB y false (S + (L ++ cdB x false (S + L.length) (b + 1)).length) 0 ++ [((agO op v).1, (agO op v).2.1, 0)] = L ++ cdB (aN op v 2 x y .nil) false (S + L.length) b
    rw [e0, (cd_ag hop v x y .nil (S + L.length) b).2.1, List.length_append, ← Nat.add_assoc]
    simp only [List.append_assoc, List.append_nil]
  | [x, y, z], _ =>
    show L ++ cdB x false (S + L.length) (b + 1) ++ cdB y false (S + (L ++ cdB x false (S + L.length) (b + 1)).length) 0 ++ cdB z false (S + (L ++ cdB x false (S + L.length) (b + 1) ++ cdB y false (S + (L ++ cdB x false (S + L.length) (b + 1)).length) 0).length) 0 ++ [((agO op v).1, (agO op v).2.1, 0)] = L ++ cdB (aN op v 3 x y z) false (S + L.length) b
    rw [e0, (cd_ag hop v x y z (S + L.length) b).2.2, List.length_append, List.length_append, ← Nat.add_assoc, ← Nat.add_assoc]
    rw [List.length_append, ← Nat.add_assoc]
    simp only [List.append_assoc]
  | _ :: _ :: _ :: _ :: _, h => exact absurd h.2 (by simp)
/-- arguments, as read -/
def agP (t : Nat → Int32) (n : Nat) (e : Pf) (S most : Nat) (vs : List (List Int32)) (p c : Nat) (es0 es : Evs) (L : Cd) (b : Nat) : RR := match pAr t n e most vs (n + 1 - p) p c es [] with
  | .inl q => .inl q
  | .inr (p2, c2, es2, l2) => .inr (p2, c2, es0 ++ es2, (l2.foldl (agS S) (L, b)).1, (l2.foldl (agS S) (L, b)).2)
/-- a node of arguments, as read -/
def agN (t : Nat → Int32) (n : Nat) (e : Pf) (S most : Nat) (vs : List (List Int32)) (p c : Nat) (es0 es : Evs) (L : Cd) (b op : Nat) (v : Int) : RR := match pAN t n e most vs p c es op v with
  | .inl q => .inl q
  | .inr (p2, c2, es2, x) => .inr (p2, c2, es0 ++ es2, L ++ cdB x false (S + L.length) b, 0)
theorem re_an {op p c : Nat} {es : Evs} {L : Cd} {b : Nat} {v : Int} (hop : op = 13 ∨ op = 14 ∨ op = 15) (hm : most ≤ 3) (h1 : es0 ++ es = [] → 1 ≤ most) : RE (emR (agO op v).1 (agO op v).2.1 (agP t n e S most vs p c es0 es L (b + 1))) (agN t n e S most vs p c es0 es L b op v) := by
  unfold agP agN pAN
  cases hh : pAr t n e most vs (n + 1 - p) p c es [] with
  | inl q => exact rfl
  | inr y =>
    obtain ⟨p2, c2, es2, l2⟩ := y
    dsimp only
    rw [em_e]
    refine ⟨rfl, rfl, fun _ => Iff.rfl, fun z => ⟨?_, rfl⟩⟩
    obtain ⟨z1, z2⟩ := List.append_eq_nil_iff.mp z
    subst z2
    have ze := ag_es _ _ _ _ _ _ _ _ hh
    have m1 := h1 (by rw [z1, ze]; rfl)
    have ml := ag_len (by omega) _ _ _ _ _ _ _ _ hh (Nat.zero_le _)
    exact ag_code hop v S L b l2 (by omega)
theorem ag_dead {q : Nat} : ∀ m k, agR t n e S most vs m k (.inl q) = .inl q
  | 0, _ => rfl
  | m + 1, k => by
    rw [agR, evD_if]
    show (if sgT t n (.inl q) = 6 then _ else _) = _
    rw [if_neg (show ¬ sgT t n (.inl q) = 6 from by show ¬ 0 = 6; decide)]
    show tkR t n 5 (if 0 < most ∧ k + 1 < most then evP 4 (.inl q) else .inl q) = _
    rw [evD_if]
    rfl
end AG3
section AG4
variable {Z : zT} {d : Nat} {t : Nat → Int32} {n N : Nat} {B : Nat × Nat × Nat × Nat × Nat} {C : Nat × Nat × Nat × Nat} {W : Wld} {w : Int} {S : Nat} {σ0 : Sg} {vs : List (List Int32)} {R : RR} {σ τ : Sg} {K : kS} {e : Pf} {D D0 o most : Nat}
theorem cl_args {p c : Nat} {es0 es : Evs} {L : Cd} {b : Nat} (he : ∀ D, D0 ≤ D → FolC t n N B C W w S σ0 e vs (fun σ K => C_X7_readE_0 Z D σ (Int32.ofNat (o + 1)) K)) (hD : D0 + 3 ≤ D) (hb : ∀ vs p c p' c' es x, e vs p c = .inr (p', c', es, x) → p ≤ p') (hm : most ≤ 3) (h : CSt t n N B C W w S σ0 vs (.inr (p, c, es0 ++ es, L, b)) σ) (hy : tyS t n p = 4) (g : GD 0 (wK w) (.inr (p, c, es0 ++ es, L, b))) (k : ∀ τ, CSt t n N B C W w S σ0 vs (agP t n e S most vs p c es0 es L b) τ → (∀ k', GD 0 k' (.inr (p, c, es0 ++ es, L, b)) → GD 0 (k' + 2) (agP t n e S most vs p c es0 es L b)) → (∀ j R1, LeK j R1 (.inr (p, c, es0 ++ es, L, b)) → LeK (j + 1) R1 (agP t n e S most vs p c es0 es L b)) → K (.inl none) τ) : C_X7_readArguments_0 Z D σ (wnI most) (Int32.ofNat o) K := by
  obtain ⟨d, rfl⟩ : ∃ d, D = d + 3 := ⟨D - 3, by omega⟩
  have hp := ty_pos (t := t) (n := n) (p := p) (by omega)
  have hx := nxS_gt (t := t) hp
  refine T_X7_readArguments_0 h.fx (cl_take (y := 4) (by decide) h (fun τ1 h1 => ?_))
  have eq := ag_pure (t := t) (n := n) (S := S) (most := most) (vs := vs) (es0 := es0) hb L b (n + 1 - p) p c es [] (by omega) (Nat.le_refl _) (by omega)
  have g1 := gd_tk (t := t) (n := n) (y := 4) (by decide) (g.w (Nat.zero_le _) (Nat.le_refl _))
  have eT : tkR t n 4 (.inr (p, c, es0 ++ es, L, b)) = .inr (nxS t n p, c, es0 ++ es, L, b) := tk_y hy
  refine cl_agL he (by omega) hb hm (n + 1 - p) _ τ1 0 h1 g1 (Nat.zero_le _) (fun p' c' es' L' b' q => ?_) (by omega) (fun _ _ _ _ _ _ i _ _ => Nat.zero_le i) (fun υ hυ gg ll => ?_)
  · rw [eT] at q
    obtain ⟨rfl, -, -, -, -⟩ := rr_inj q
    omega
  · have ea : agR t n e S most vs (n + 1 - p) 0 (tkR t n 4 (.inr (p, c, es0 ++ es, L, b))) = agP t n e S most vs p c es0 es L b := by
      rw [eT]
      exact eq
    rw [ea] at hυ gg ll
    exact k υ hυ (fun k' q => gg _ (gd_tk (by decide) (q.w (Nat.zero_le _) (Nat.le_refl _)))) (fun j R1 q => ll _ R1 (lk_tk q))
/-- and the node is made -/
theorem cl_argN {p c : Nat} {es0 es : Evs} {L : Cd} {b op : Nat} {v : Int} (he : ∀ D, D0 ≤ D → FolC t n N B C W w S σ0 e vs (fun σ K => C_X7_readE_0 Z D σ (Int32.ofNat (o + 1)) K)) (hD : D0 + 3 ≤ D) (hb : ∀ vs p c p' c' es x, e vs p c = .inr (p', c', es, x) → p ≤ p') (hm : most ≤ 3) (hop : op = 13 ∨ op = 14 ∨ op = 15) (h1 : es0 ++ es = [] → 1 ≤ most) (h : CSt t n N B C W w S σ0 vs (.inr (p, c, es0 ++ es, L, b + 1)) σ) (hy : tyS t n p = 4) (g : GD 0 (wK w) (.inr (p, c, es0 ++ es, L, b + 1))) (k : ∀ τ, CSt t n N B C W w S σ0 vs (agN t n e S most vs p c es0 es L b op v) τ → (∀ k', GD 0 k' (.inr (p, c, es0 ++ es, L, b + 1)) → GD 0 (k' + 1) (agN t n e S most vs p c es0 es L b op v)) → (∀ j R1, LeK j R1 (.inr (p, c, es0 ++ es, L, b + 1)) → LeK (j + 2) R1 (agN t n e S most vs p c es0 es L b op v)) → K (.inl none) τ) : C_X7_readArguments_0 Z D σ (wnI most) (Int32.ofNat o) (yN K fun τ1 => C_X1_emit_0 Z D τ1 (agO op v).1 (agO op v).2.1 (yN K fun τ3 => K (.inl none) τ3)) := by
  refine cl_args he hD hb hm h hy g (fun τ1 h2 gg ll => ?_)
  obtain ⟨d, rfl⟩ : ∃ d, D = d + 3 := ⟨D - 3, by omega⟩
  have g2 := gg _ g
  have re := re_an (t := t) (n := n) (e := e) (S := S) (most := most) (vs := vs) (es0 := es0) (p := p) (c := c) (es := es) (L := L) (b := b) (v := v) hop hm h1
  exact cl_emit h2 (fun p c L b e => by have := g2.pl p c L b e; omega) (fun τ3 h3 => k τ3 (h3.re re) (fun k' q => re.gd (gd_em (gg _ q))) (fun j R1 q => re.lk (lk_em (ll _ R1 q))))
end AG4

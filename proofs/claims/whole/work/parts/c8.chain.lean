/-! THE CLASS: chains (pure) -/
theorem lkA_cons (s : Nat) (y : Ast) (r : List (Nat × Ast)) : lkA ((s, y) :: r) = aN (30 + s) 0 0 y (lkA r) .nil := rfl
theorem cd_lk (op : Nat) (v w : Int) (a b c : Ast) (S k : Nat) : cdB (aN op v w a b c) true S k = cdB a false S 0 ++ (lkO op, 0, 0) :: cdB b true (S + (cdB a false S 0).length + 1) 0 := rfl
theorem cd_ln (S k : Nat) : cdB .nil true S k = [] := rfl
theorem cd_snoc : ∀ (l : List (Nat × Ast)) (s : Nat) (y : Ast) (T : Nat), cdB (lkA (l ++ [(s, y)])) true T 0 = cdB (lkA l) true T 0 ++ (cdB y false (T + (cdB (lkA l) true T 0).length) 0 ++ [(lkO (30 + s), 0, 0)])
  | [], s, y, T => rfl
  | (s', y') :: r, s, y, T => by
    rw [List.cons_append, lkA_cons, lkA_cons, cd_lk, cd_lk, cd_snoc r s y]
    rw [List.append_assoc, List.cons_append, List.length_append, List.length_cons]
    have : T + (cdB y' false T 0).length + 1 + (cdB (lkA r) true (T + (cdB y' false T 0).length + 1) 0).length = T + ((cdB y' false T 0).length + ((cdB (lkA r) true (T + (cdB y' false T 0).length + 1) 0).length + 1)) := by omega
    rw [this]
section LOOP
variable (t : Nat → Int32) (n : Nat) (sub : Pf) (S s1 s2 f0 : Nat) (vs : List (List Int32))
/-- links, one after another -/
def lpR : Nat → RR → RR
  | 0, R => R
  | m + 1, R => if sgT t n R = s1 ∨ sgT t n R = s2 then lpR m (emR (lkO (30 + sgT t n R)) 0 (gR sub S vs (tkR t n (sgT t n R) (an2 f0 R)))) else R
end LOOP
section LOOP2
variable {t : Nat → Int32} {n : Nat} {sub : Pf} {S s1 s2 : Nat} {vs : List (List Int32)} {L : Cd} {b : Nat} {x : Ast} {es0 : Evs}
theorem lp_dead {f0 q : Nat} (h1 : 2 ≤ s1) (h2 : 2 ≤ s2) : ∀ m, lpR t n sub S s1 s2 f0 vs m (.inl q) = .inl q
  | 0 => rfl
  | m + 1 => by
    rw [lpR]
    exact if_neg (by show ¬ (0 = s1 ∨ 0 = s2); omega)
/-- the code of a chain so far -/
def chC (S : Nat) (L : Cd) (b : Nat) (x : Ast) (l : List (Nat × Ast)) : Cd := L ++ (cdB x false (S + L.length) (b + l.length) ++ cdB (lkA l) true (S + L.length + (cdB x false (S + L.length) b).length) 0)
theorem cd_bmK (x : Ast) (S k : Nat) : ∀ j, (cdB x false S (k + j)).length = (cdB x false S k).length
  | 0 => rfl
  | j + 1 => by rw [← Nat.add_assoc, cd_bmN, cd_bmK x S k j]
theorem an2_e {f p c : Nat} {es : Evs} {L : Cd} {b : Nat} : an2 f (.inr (p, c, es, L, b)) = .inr (p, c + 1, es ++ cnE c p, bmA f L, b) := rfl
theorem ch_step (S : Nat) (L : Cd) (b : Nat) (x : Ast) (l : List (Nat × Ast)) (s : Nat) (y : Ast) : bmA L.length (chC S L b x l) ++ cdB y false (S + (bmA L.length (chC S L b x l)).length) 0 ++ [(lkO (30 + s), 0, 0)] = chC S L b x (l ++ [(s, y)]) := by
  have e1 : bmA L.length (chC S L b x l) = L ++ (cdB x false (S + L.length) (b + (l.length + 1)) ++ cdB (lkA l) true (S + L.length + (cdB x false (S + L.length) b).length) 0) := by
    unfold chC
    rw [bmA_app, bm_app (cd_bm x _ _).1, (cd_bm x _ _).2, Nat.add_assoc b]
  have e2 : S + (bmA L.length (chC S L b x l)).length = S + L.length + (cdB x false (S + L.length) b).length + (cdB (lkA l) true (S + L.length + (cdB x false (S + L.length) b).length) 0).length := by
    rw [e1, List.length_append, List.length_append, cd_bmK]
    omega
  rw [e2, e1]
  unfold chC
  rw [cd_snoc, List.length_append]
  simp only [List.append_assoc]
  rfl
theorem lp_pure (h1 : 2 ≤ s1) (h2 : 2 ≤ s2) (hb : ∀ vs p c p' c' es x, sub vs p c = .inr (p', c', es, x) → p ≤ p') : ∀ m p c es l, 1 ≤ m → n + 1 - p ≤ m → lpR t n sub S s1 s2 L.length vs m (.inr (p, c, es0 ++ es, chC S L b x l, 0)) = match pLk t n sub s1 s2 vs m p c es l with
    | .inl q => .inl q
    | .inr (p2, c2, es2, l2) => .inr (p2, c2, es0 ++ es2, chC S L b x l2, 0)
  | 0, p, c, es, l, hm, _ => absurd hm (by decide)
  | m + 1, p, c, es, l, _, hm => by
    rw [lpR, pLk]
    show (if tyS t n p = s1 ∨ tyS t n p = s2 then _ else _) = _
    by_cases z : tyS t n p = s1 ∨ tyS t n p = s2
    · rw [if_pos z, if_pos z]
      have hp : p < n := ty_pos (t := t) (n := n) (by omega)
      have hx := nxS_gt (t := t) hp
      show lpR t n sub S s1 s2 L.length vs m (emR (lkO (30 + tyS t n p)) 0 (gR sub S vs (tkR t n (tyS t n p) (an2 L.length _)))) = _
      rw [an2_e, tk_y rfl]
      cases hh : sub vs (nxS t n p) (c + 1) with
      | inl q =>
        rw [gR_l hh]
        exact lp_dead h1 h2 m
      | inr y =>
        obtain ⟨p1, c1, es1, a⟩ := y
        have hle := hb _ _ _ _ _ _ _ hh
        rw [gR_r hh, em_e, ch_step]
        have := lp_pure h1 h2 hb m p1 c1 (es ++ cnE c p ++ es1) (l ++ [(tyS t n p, a)]) (by omega) (by omega)
        rw [← List.append_assoc, ← List.append_assoc] at this
        exact this
    · rw [if_neg z, if_neg z]
theorem ch_mk (S : Nat) (L : Cd) (b : Nat) (x : Ast) (l : List (Nat × Ast)) : chC S L b x l = L ++ cdB (mkCh x l) false (S + L.length) b := by
  unfold chC mkCh
  cases l with
  | nil =>
    rw [if_pos rfl]
    show L ++ (cdB x false (S + L.length) b ++ []) = _
    rw [List.append_nil]
  | cons y r =>
    rw [if_neg (by simp)]
    show _ = L ++ (cdB x false (S + L.length) (b + (y :: r).length) ++ cdB (lkA (y :: r)) true (S + L.length + (cdB x false (S + L.length) (b + (y :: r).length)).length) 0)
    rw [cd_bmK]
/-- a chain, read -/
theorem ch_pure {p c : Nat} {es : Evs} {m : Nat} (h1 : 2 ≤ s1) (h2 : 2 ≤ s2) (hb : ∀ vs p c p' c' es x, sub vs p c = .inr (p', c', es, x) → p ≤ p') (hm : ∀ p1 c1 es1 x, sub vs p c = .inr (p1, c1, es1, x) → m = n + 1 - p1 ∧ p1 ≤ n) : lpR t n sub S s1 s2 L.length vs m (gR sub S vs (.inr (p, c, es, L, b))) = gR (pCh t n sub s1 s2) S vs (.inr (p, c, es, L, b)) := by
  cases hh : sub vs p c with
  | inl q =>
    have e1 : pCh t n sub s1 s2 vs p c = .inl q := bnd_l hh
    rw [gR_l hh, gR_l e1]
    exact lp_dead h1 h2 m
  | inr y =>
    obtain ⟨p1, c1, es1, x⟩ := y
    obtain ⟨em, hn⟩ := hm p1 c1 es1 x hh
    have e1 : pCh t n sub s1 s2 vs p c = match pLk t n sub s1 s2 vs (n + 1 - p1) p1 c1 es1 [] with
      | .inl q => .inl q
      | .inr (p2, c2, es2, l) => .inr (p2, c2, es2, mkCh x l) := bnd_r hh
    have e2 := lp_pure (t := t) (n := n) (S := S) (vs := vs) (L := L) (b := b) (x := x) (es0 := es) h1 h2 hb m p1 c1 es1 [] (by omega) (by omega)
    rw [ch_mk] at e2
    rw [gR_r hh]
    refine Eq.trans e2 ?_
    rw [em]
    cases hp : pLk t n sub s1 s2 vs (n + 1 - p1) p1 c1 es1 [] with
    | inl q =>
      rw [hp] at e1
      rw [gR_l e1]
    | inr y =>
      obtain ⟨p2, c2, es2, l⟩ := y
      rw [hp] at e1
      rw [gR_r e1]
      dsimp only
      rw [ch_mk]
end LOOP2

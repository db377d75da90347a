/-! THE SYNTAX DOESN'T DEPEND ON THE NAMES TOLD -/
/-- where it ends, or what can't stand there -/
def psR {α : Type} : Nat ⊕ (Nat × α) → Nat ⊕ Nat
  | .inl q => .inl q
  | .inr x => .inr x.1
theorem ps_ite {α β : Type} {P : Prop} [Decidable P] {a b : Nat ⊕ (Nat × α)} {a' b' : Nat ⊕ (Nat × β)} (h1 : P → psR a = psR a') (h2 : ¬ P → psR b = psR b') : psR (if P then a else b) = psR (if P then a' else b') := by
  by_cases h : P
  · rw [if_pos h, if_pos h]
    exact h1 h
  · rw [if_neg h, if_neg h]
    exact h2 h
theorem ps_or {α β : Type} {r : Nat ⊕ (Nat × α)} {r' : Nat ⊕ (Nat × β)} (h : psR r = psR r') : (∃ q, r = .inl q ∧ r' = .inl q) ∨ ∃ p a b, r = .inr (p, a) ∧ r' = .inr (p, b) := by
  rcases r with q | ⟨p, a⟩ <;> rcases r' with q' | ⟨p', b⟩
  · cases h
    exact Or.inl ⟨_, rfl, rfl⟩
  · cases h
  · cases h
  · have : p = p' := Sum.inr.inj h
    subst this
    exact Or.inr ⟨_, _, _, rfl, rfl⟩
theorem ps_bnd {r r' : PR} {f f' : Nat → Nat → Evs → Ast → PR} (h : psR r = psR r') (g : ∀ p c es x c' es' x', psR (f p c es x) = psR (f' p c' es' x')) : psR (bnd r f) = psR (bnd r' f') := by
  rcases ps_or h with ⟨q, e1, e2⟩ | ⟨p, ⟨c, es, x⟩, ⟨c', es', x'⟩, e1, e2⟩
  · rw [e1, e2]
    rfl
  · rw [e1, e2]
    exact g p c es x c' es' x'
def Syn (f g : Pf) : Prop := ∀ vs vs' p c c', psR (f vs p c) = psR (g vs' p c')
section SYN
variable {t : Nat → Int32} {n : Nat} {env env' : Env}
theorem sy_lk {sub sub' : Pf} (hs : Syn sub sub') {s1 s2 : Nat} {vs vs' : List (List Int32)} : ∀ f p c c' es es' l l', psR (pLk t n sub s1 s2 vs f p c es l) = psR (pLk t n sub' s1 s2 vs' f p c' es' l')
  | 0, p, c, c', es, es', l, l' => rfl
  | f + 1, p, c, c', es, es', l, l' => by
    rw [pLk, pLk]
    refine ps_ite (fun _ => ?_) (fun _ => rfl)
    rcases ps_or (hs vs vs' (nxS t n p) (c + 1) (c' + 1)) with ⟨q, e1, e2⟩ | ⟨p2, ⟨c2, es2, x2⟩, ⟨c3, es3, x3⟩, e1, e2⟩
    · rw [e1, e2]
    · rw [e1, e2]
      exact sy_lk hs f _ _ _ _ _ _ _
theorem sy_ch {sub sub' : Pf} (hs : Syn sub sub') {s1 s2 : Nat} : Syn (pCh t n sub s1 s2) (pCh t n sub' s1 s2) := by
  intro vs vs' p c c'
  unfold pCh
  refine ps_bnd (hs _ _ _ _ _) (fun p1 c1 es1 x1 c1' es1' x1' => ?_)
  rcases ps_or (sy_lk (t := t) (n := n) hs (s1 := s1) (s2 := s2) (vs := vs) (vs' := vs') (n + 1 - p1) p1 c1 c1' es1 es1' [] []) with ⟨q, e1, e2⟩ | ⟨p2, ⟨c2, es2, x2⟩, ⟨c3, es3, x3⟩, e1, e2⟩
  · rw [e1, e2]
  · rw [e1, e2]
    rfl
theorem sy_co {sm sm' : Pf} (hs : Syn sm sm') : Syn (pCo t n env sm) (pCo t n env' sm') := by
  intro vs vs' p c c'
  unfold pCo
  refine ps_bnd (hs _ _ _ _ _) (fun p1 c1 es1 x1 c1' es1' x1' => ?_)
  refine ps_ite (fun _ => ps_bnd (hs _ _ _ _ _) (fun _ _ _ _ _ _ _ => rfl)) (fun _ => ps_ite (fun _ => ps_ite (fun _ => rfl) (fun _ => rfl)) (fun _ => rfl))
theorem sy_ar {e e' : Pf} (he : Syn e e') {most most' : Nat} {vs vs' : List (List Int32)} : ∀ f p c c' es es' l l', psR (pAr t n e most vs f p c es l) = psR (pAr t n e' most' vs' f p c' es' l')
  | 0, p, c, c', es, es', l, l' => rfl
  | f + 1, p, c, c', es, es', l, l' => by
    rw [pAr, pAr]
    rcases ps_or (he vs vs' (nxS t n p) c c') with ⟨q, e1, e2⟩ | ⟨p2, ⟨c2, es2, x2⟩, ⟨c3, es3, x3⟩, e1, e2⟩
    · rw [e1, e2]
    · rw [e1, e2]
      dsimp only
      exact ps_ite (fun _ => sy_ar he f _ _ _ _ _ _ _) (fun _ => ps_ite (fun _ => rfl) (fun _ => rfl))
theorem sy_an {e e' : Pf} (he : Syn e e') {most most' : Nat} {vs vs' : List (List Int32)} {p c c' : Nat} {es es' : Evs} {op op' : Nat} {v v' : Int} : psR (pAN t n e most vs p c es op v) = psR (pAN t n e' most' vs' p c' es' op' v') := by
  unfold pAN
  rcases ps_or (sy_ar (t := t) (n := n) he (most := most) (most' := most') (vs := vs) (vs' := vs') (n + 1 - p) p c c' es es' [] []) with ⟨q, e1, e2⟩ | ⟨p2, ⟨c2, es2, x2⟩, ⟨c3, es3, x3⟩, e1, e2⟩
  · rw [e1, e2]
  · rw [e1, e2]
    rfl
theorem sy_e {e e' pp pp' : Pf} (he : Syn e e') (hp : Syn pp pp') : Syn (pEb t n env e pp) (pEb t n env' e' pp') := by
  intro vs vs' p c c'
  unfold pEb
  refine ps_ite (fun _ => ?_) (fun _ => ps_ite (fun _ => ?_) (fun _ => ps_ite (fun _ => ?_) (fun _ => ps_ite (fun _ => ?_) (fun _ => ps_ite (fun _ => ?_) (fun _ => ?_)))))
  · exact ps_ite (fun _ => ps_ite (fun _ => ps_bnd (he _ _ _ _ _) (fun _ _ _ _ _ _ _ => ps_ite (fun _ => ps_bnd (he _ _ _ _ _) (fun _ _ _ _ _ _ _ => rfl)) (fun _ => rfl))) (fun _ => rfl)) (fun _ => rfl)
  · exact ps_bnd (he _ _ _ _ _) (fun _ _ _ _ _ _ _ => ps_ite (fun _ => ps_bnd (he _ _ _ _ _) (fun _ _ _ _ _ _ _ => ps_ite (fun _ => ps_bnd (he _ _ _ _ _) (fun _ _ _ _ _ _ _ => rfl)) (fun _ => rfl))) (fun _ => rfl))
  · exact ps_ite (fun _ => ps_ite (fun _ => ps_bnd (he _ _ _ _ _) (fun _ _ _ _ _ _ _ => rfl)) (fun _ => rfl)) (fun _ => rfl)
  · exact ps_bnd (he _ _ _ _ _) (fun _ _ _ _ _ _ _ => ps_ite (fun _ => ps_ite (fun _ => ps_ite (fun _ => ps_bnd (he _ _ _ _ _) (fun _ _ _ _ _ _ _ => rfl)) (fun _ => rfl)) (fun _ => rfl)) (fun _ => rfl))
  · exact ps_bnd (he _ _ _ _ _) (fun _ _ _ _ _ _ _ => rfl)
  · exact sy_co (sy_ch (sy_ch hp)) _ _ _ _ _
theorem sy_p {e e' pp pp' : Pf} (he : Syn e e') (hp : Syn pp pp') : Syn (pPb t n env e pp) (pPb t n env' e' pp') := by
  intro vs vs' p c c'
  unfold pPb
  refine ps_ite (fun _ => ?_) (fun _ => ps_ite (fun _ => ps_ite (fun _ => sy_an he) (fun _ => rfl)) (fun _ => ps_ite (fun _ => ps_ite (fun _ => sy_an he) (fun _ => rfl)) (fun _ => ps_ite (fun _ => ps_bnd (hp _ _ _ _ _) (fun _ _ _ _ _ _ _ => rfl)) (fun _ => ps_ite (fun _ => ps_bnd (he _ _ _ _ _) (fun _ _ _ _ _ _ _ => ps_ite (fun _ => rfl) (fun _ => rfl))) (fun _ => rfl)))))
  cases pSg t n p <;> rfl
theorem sy_x : ∀ (r : Nat) (b : Bool), Syn (pX t n env r b) (pX t n env' r b)
  | 0, _ => fun _ _ _ _ _ => rfl
  | r + 1, false => sy_e (sy_x r false) (sy_x r true)
  | r + 1, true => sy_p (sy_x r false) (sy_x r true)
theorem sy_c2 {vs vs' : List (List Int32)} {p1 k k' w w' : Nat} {es es' : Evs} {pa mo pa' mo' : Int} : psR (pC2 t n vs p1 k w es pa mo) = psR (pC2 t n vs' p1 k' w' es' pa' mo') := by
  unfold pC2
  refine ps_ite (fun _ => ps_ite (fun _ => ?_) (fun _ => ?_)) (fun _ => rfl)
  · cases pBh t n (nxS t n (nxS t n p1)) <;> rfl
  · cases pSg t n (nxS t n p1) <;> rfl
theorem sy_cm : Syn (pCm t n env) (pCm t n env') := by
  intro vs vs' p c c'
  unfold pCm
  refine ps_ite (fun _ => ps_ite (fun _ => ps_ite (fun _ => rfl) (fun _ => rfl)) (fun _ => ?_)) (fun _ => ?_)
  · cases pBh t n (nxS t n p) with
    | inl q => rfl
    | inr x => exact sy_c2
  · cases pSg t n p with
    | inl q => rfl
    | inr x => exact sy_c2
theorem sy_lo {sub sub' : Pf} (hs : Syn sub sub') {w op : Nat} {vs vs' : List (List Int32)} : ∀ f p k k' es es' x x', psR (pLo t n sub w op vs f p k es x) = psR (pLo t n sub' w op vs' f p k' es' x')
  | 0, p, k, k', es, es', x, x' => rfl
  | f + 1, p, k, k', es, es', x, x' => by
    rw [pLo, pLo]
    refine ps_ite (fun _ => ?_) (fun _ => rfl)
    rcases ps_or (hs vs vs' (nxS t n p) k k') with ⟨q, e1, e2⟩ | ⟨p2, ⟨c2, es2, x2⟩, ⟨c3, es3, x3⟩, e1, e2⟩
    · rw [e1, e2]
    · rw [e1, e2]
      exact sy_lo hs f _ _ _ _ _ _ _
theorem sy_ls {sub sub' : Pf} (hs : Syn sub sub') {w op : Nat} : Syn (pLs t n sub w op) (pLs t n sub' w op) := by
  intro vs vs' p c c'
  unfold pLs
  exact ps_bnd (hs _ _ _ _ _) (fun _ _ _ _ _ _ _ => sy_lo hs _ _ _ _ _ _ _ _)
theorem sy_tt {s s' : Pf} (hs : Syn s s') : Syn (pTt t n s) (pTt t n s') := sy_ls (sy_ls hs)
theorem sy_ts : ∀ r, Syn (pTs t n env r) (pTs t n env' r)
  | 0 => fun _ _ _ _ _ => rfl
  | r + 1 => by
    intro vs vs' p c c'
    rw [pTs, pTs]
    dsimp only
    exact ps_ite (fun _ => ps_bnd (sy_ts r _ _ _ _ _) (fun _ _ _ _ _ _ _ => rfl)) (fun _ => ps_ite (fun _ => ps_bnd (sy_tt (sy_ts r) _ _ _ _ _) (fun _ _ _ _ _ _ _ => ps_ite (fun _ => rfl) (fun _ => rfl))) (fun _ => sy_cm _ _ _ _ _))
theorem sy_sk {p : Nat} : psR (pSk t n env p) = psR (pSk t n env' p) := by
  unfold pSk
  exact ps_ite (fun _ => ps_ite (fun _ => rfl) (fun _ => rfl)) (fun _ => rfl)
theorem sy_sp {pl pl' : Nat} : ∀ f p k k' vs vs' es es' acc acc', psR (pSp t n env pl f p k vs es acc) = psR (pSp t n env' pl' f p k' vs' es' acc')
  | 0, p, k, k', vs, vs', es, es', acc, acc' => rfl
  | f + 1, p, k, k', vs, vs', es, es', acc, acc' => by
    rw [pSp, pSp]
    refine ps_ite (fun _ => ?_) (fun _ => rfl)
    rcases ps_or (sy_sk (t := t) (n := n) (env := env) (env' := env') (p := nxS t n p)) with ⟨q, e1, e2⟩ | ⟨p2, ⟨es2, x2⟩, ⟨es3, x3⟩, e1, e2⟩
    · rw [e1, e2]
    · rw [e1, e2]
      dsimp only
      cases pSq t n p2 with
      | inl q => rfl
      | inr x =>
        obtain ⟨p3, hs, v⟩ := x
        exact ps_ite (fun _ => sy_sp f _ _ _ _ _ _ _ _ _) (fun _ => ps_ite (fun _ => rfl) (fun _ => rfl))
theorem sy_in {p : Nat} : psR (pIn t n env p) = psR (pIn t n env' p) := by
  unfold pIn
  exact ps_ite (fun _ => ps_ite (fun _ => rfl) (fun _ => rfl)) (fun _ => rfl)
theorem sy_if {vs vs' : List (List Int32)} {p : Nat} : psR (pIf t n env vs p) = psR (pIf t n env' vs' p) := by
  unfold pIf
  exact ps_ite (fun _ => sy_tt (sy_ts 12) _ _ _ _ _) (fun _ => rfl)
theorem sy_mt {mn mn' p : Nat} : psR (pMt t n env mn p) = psR (pMt t n env' mn' p) := by
  unfold pMt
  refine ps_ite (fun _ => ps_ite (fun _ => ?_) (fun _ => rfl)) (fun _ => rfl)
  rcases ps_or (sy_sp (t := t) (n := n) (env := env) (env' := env') (pl := plO env (env.2.1 (nmS t n p))) (pl' := plO env' (env'.2.1 (nmS t n p))) (n + 1 - nxS t n (nxS t n p)) (nxS t n (nxS t n p)) 0 0 [] [] ((if env.2.1 (nmS t n p) = none then [(p, 3)] else []) ++ (if mn = 120 then [(p, 7)] else [])) ((if env'.2.1 (nmS t n p) = none then [(p, 3)] else []) ++ (if mn' = 120 then [(p, 7)] else [])) [] []) with ⟨q, e1, e2⟩ | ⟨p3, ⟨V3, es3, x3⟩, ⟨V3', es3', x3'⟩, e1, e2⟩
  · rw [e1, e2]
  · rw [e1, e2]
    dsimp only
    rcases ps_or (sy_in (t := t) (n := n) (env := env) (env' := env') (p := if rlO (tyS t n p3) = 0 then p3 else nxS t n p3)) with ⟨q, e1, e2⟩ | ⟨p5, ⟨es5, x5⟩, ⟨es5', x5'⟩, e1, e2⟩
    · rw [e1, e2]
    · rw [e1, e2]
      dsimp only
      rcases ps_or (sy_if (t := t) (n := n) (env := env) (env' := env') (vs := V3) (vs' := V3') (p := p5)) with ⟨q, e1, e2⟩ | ⟨p6, ⟨k6, es6, x6⟩, ⟨k6', es6', x6'⟩, e1, e2⟩
      · rw [e1, e2]
      · rw [e1, e2]
        dsimp only
        refine ps_ite (fun _ => ?_) (fun _ => rfl)
        rcases ps_or (sy_x (t := t) (n := n) (env := wiE env (wiO (env.2.1 (nmS t n p)))) (env' := wiE env' (wiO (env'.2.1 (nmS t n p)))) 12 false V3 V3' (nxS t n p6) 0 0) with ⟨q, e1, e2⟩ | ⟨p8, ⟨k8, es8, x8⟩, ⟨k8', es8', x8'⟩, e1, e2⟩
        · rw [e1, e2]
        · rw [e1, e2]
          exact ps_ite (fun _ => rfl) (fun _ => rfl)
end SYN

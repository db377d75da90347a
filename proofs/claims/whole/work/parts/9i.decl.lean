/-! DECLARATIONS AND TEXTS, AS THE DOCUMENT HAS THEM -/
/-- name, bare, parents, the rows by ways 0, 1, 2 -/
abbrev Knd : Type := List Int32 × Bool × List Nat × List Nat × List Nat × List Nat
/-- name, places, join, way -/
abbrev Cal : Type := List Int32 × Nat × Nat × Nat
/-- kinds, calls, layers, methods (and whether they are gone) -/
abbrev Wld : Type := List Knd × List Cal × List (List Int32) × List (Mtd × Bool)
def rwK (x : Knd) (w : Nat) : List Nat := if w = 0 then x.2.2.2.1 else if w = 1 then x.2.2.2.2.1 else x.2.2.2.2.2
def rwW (ks : List Knd) (w k : Nat) : List Nat := match ks[k]? with
  | some x => rwK x w
  | none => []
def enW (ks : List Knd) (cs : List Cal) (ls : List (List Int32)) (w : Int) : Env := (fun nm => (ks.map (·.1)).findIdx? (· == nm), fun nm => (cs.map (·.1)).findIdx? (· == nm), fun nm => ls.findIdx? (· == nm), fun k => ((ks[k]?).map (·.2.1)).getD false, fun k => ((cs[k]?).map (·.2.1)).getD 0, w)
section DECL
variable (t : Nat → Int32) (n : Nat) (env : Env)
/-- the name is told -/
def toE (nm : List Int32) : Bool := (env.1 nm).isSome || (env.2.1 nm).isSome || (env.2.2.1 nm).isSome
/-- what a name that is told breaks, and a house that is full -/
def nmE (p : Nat) (full : Prop) [Decidable full] : Evs := (if toE env (nmS t n p) = true then [(p, 2)] else []) ++ (if full then [(p, 7)] else [])
/-- the parents, p at the sign before one -/
def paE (q : Nat) (ps : List Nat) : Evs := match env.1 (nmS t n q) with
  | none => [(q, 3)]
  | some k => if k ∈ ps then [(q, 5)] else []
def paO (q : Nat) (ps : List Nat) : Bool := match env.1 (nmS t n q) with
  | none => false
  | some k => decide (k ∉ ps)
def paN (q : Nat) (ps : List Nat) : List Nat := match env.1 (nmS t n q) with
  | none => ps
  | some k => if k ∈ ps then ps else ps ++ [k]
def pPa : Nat → Nat → Evs → List Nat → Bool → Nat ⊕ (Nat × Evs × List Nat × Bool)
  | 0, p, _, _, _ => .inl p
  | f + 1, p, es, ps, g => if tyS t n (nxS t n p) = 2 then
      (if tyS t n (nxS t n (nxS t n p)) = 6 then pPa f (nxS t n (nxS t n p)) (es ++ paE t n env (nxS t n p) ps) (paN t n env (nxS t n p) ps) (g && paO t n env (nxS t n p) ps)
      else .inr (nxS t n (nxS t n p), es ++ paE t n env (nxS t n p) ps, paN t n env (nxS t n p) ps, g && paO t n env (nxS t n p) ps))
    else .inl (nxS t n p)
def pKp (p : Nat) (es : Evs) : Nat ⊕ (Nat × Evs × List Nat × Bool) := if tyS t n p = 15 then pPa t n env (n + 1 - p) p es [] true else .inr (p, es, [0], true)
def pKi (kn : Nat) (rs : Nat → Nat → List Nat) (p : Nat) : Nat ⊕ (Nat × Evs × Option Knd) :=
  if tyS t n p = 2 then
    (match pKp t n env (nxS t n p) (nmE t n env p (kn = 24)) with
    | .inl q => .inl q
    | .inr (p1, es, ps, g) =>
      if tyS t n (if tyS t n p1 = 21 then nxS t n p1 else p1) = 7 then
        (if kn = 24 ∨ g = false then .inr (nxS t n (if tyS t n p1 = 21 then nxS t n p1 else p1), es, none)
        else .inr (nxS t n (if tyS t n p1 = 21 then nxS t n p1 else p1), es ++ (if es = [] ∧ (rwN kn ps rs).2.2.2 = false then [(p, 5)] else []), some (nmS t n p, decide (tyS t n p1 = 21), ps, (rwN kn ps rs).1, (rwN kn ps rs).2.1, (rwN kn ps rs).2.2.1)))
      else .inl (if tyS t n p1 = 21 then nxS t n p1 else p1))
  else .inl p
def jnO (y : Nat) : Option Nat := if y = 34 then some 0 else if y = 35 then some 1 else if y = 36 then some 2 else if y = 37 then some 3 else if y = 38 then some 4 else none
def wyO (y : Nat) : Option Nat := if y = 39 then some 0 else if y = 40 then some 1 else if y = 41 then some 2 else none
def pCl (cn p : Nat) : Nat ⊕ (Nat × Evs × Option Cal) :=
  if tyS t n p = 2 then
    (if tyS t n (nxS t n p) = 4 then
      (if tyS t n (nxS t n (nxS t n p)) = 3 then
        (if tyS t n (nxS t n (nxS t n (nxS t n p))) = 5 then
          (match jnO (tyS t n (nxS t n (nxS t n (nxS t n (nxS t n p))))) with
          | none => .inl (nxS t n (nxS t n (nxS t n (nxS t n p))))
          | some j => match wyO (tyS t n (nxS t n (nxS t n (nxS t n (nxS t n (nxS t n p)))))) with
            | none => .inl (nxS t n (nxS t n (nxS t n (nxS t n (nxS t n p)))))
            | some w => if tyS t n (nxS t n (nxS t n (nxS t n (nxS t n (nxS t n (nxS t n p)))))) = 7 then
                .inr (nxS t n (nxS t n (nxS t n (nxS t n (nxS t n (nxS t n (nxS t n p)))))), nmE t n env p (cn = 24) ++ (if (vaS t n (nxS t n (nxS t n p))).toInt < 1 ∨ 3 < (vaS t n (nxS t n (nxS t n p))).toInt then [(nxS t n (nxS t n p), 4)] else []), if cn = 24 then none else some (nmS t n p, (if (vaS t n (nxS t n (nxS t n p))).toInt < 1 ∨ 3 < (vaS t n (nxS t n (nxS t n p))).toInt then 1 else (vaS t n (nxS t n (nxS t n p))).toInt.toNat), j, w))
              else .inl (nxS t n (nxS t n (nxS t n (nxS t n (nxS t n (nxS t n p)))))))
        else .inl (nxS t n (nxS t n (nxS t n p))))
      else .inl (nxS t n (nxS t n p)))
    else .inl (nxS t n p))
  else .inl p
def pLy (ln p : Nat) : Nat ⊕ (Nat × Evs × Option (List Int32)) :=
  if tyS t n p = 2 then
    (if tyS t n (nxS t n p) = 7 then .inr (nxS t n (nxS t n p), nmE t n env p (ln = 8), if ln = 8 then none else some (nmS t n p)) else .inl (nxS t n p))
  else .inl p
end DECL
def adO {α : Type} (l : List α) : Option α → List α
  | some x => l ++ [x]
  | none => l
/-- two specs are the same -/
def spB (x y : Spc) : Bool := Int32.ofInt x.1 == Int32.ofInt y.1 && x.2.1 == y.2.1 && (!x.2.1 || Int32.ofInt x.2.2 == Int32.ofInt y.2.2)
/-- there is such a method without a test already -/
def twB (ms : List (Mtd × Bool)) (D : Mtd) (pl : Nat) : Bool := D.2.2.2.2.1.isNil && ms.any fun x => !x.2 && Int32.ofInt x.1.1 == Int32.ofInt D.1 && x.1.2.2.2.2.1.isNil && Int32.ofNat x.1.2.1 == Int32.ofNat D.2.1 && Int32.ofInt x.1.2.2.1 == Int32.ofInt D.2.2.1 && (List.range pl).all fun i => spB (x.1.2.2.2.1.getD i (0, false, 0)) (D.2.2.2.1.getD i (0, false, 0))
section TEXT
variable (t : Nat → Int32) (n : Nat)
/-- one declaration -/
def pDe (W : Wld) (p : Nat) : Nat ⊕ (Nat × Evs × Wld) :=
  if tyS t n p = 20 then (match pKi t n (enW W.1 W.2.1 W.2.2.1 (-1)) W.1.length (rwW W.1) (nxS t n p) with
    | .inl q => .inl q
    | .inr (p', es, o) => .inr (p', es, adO W.1 o, W.2.1, W.2.2.1, W.2.2.2))
  else if tyS t n p = 22 then (match pCl t n (enW W.1 W.2.1 W.2.2.1 (-1)) W.2.1.length (nxS t n p) with
    | .inl q => .inl q
    | .inr (p', es, o) => .inr (p', es, W.1, adO W.2.1 o, W.2.2.1, W.2.2.2))
  else if tyS t n p = 23 then (match pLy t n (enW W.1 W.2.1 W.2.2.1 (-1)) W.2.2.1.length (nxS t n p) with
    | .inl q => .inl q
    | .inr (p', es, o) => .inr (p', es, W.1, W.2.1, adO W.2.2.1 o, W.2.2.2))
  else if tyS t n p = 24 then (match pMt t n (enW W.1 W.2.1 W.2.2.1 (-1)) W.2.2.2.length (nxS t n p) with
    | .inl q => .inl q
    | .inr (p', es, D) => .inr (p', es ++ (if es = [] ∧ twB W.2.2.2 D (plO (enW W.1 W.2.1 W.2.2.1 (-1)) ((enW W.1 W.2.1 W.2.2.1 (-1)).2.1 (nmS t n (nxS t n p)))) = true then [(nxS t n p, 2)] else []), W.1, W.2.1, W.2.2.1, if W.2.2.2.length < 120 then W.2.2.2 ++ [(D, false)] else W.2.2.2))
  else .inl p
/-- a text: what can't stand there, or what its first wrong declaration breaks, and the world behind it -/
def pTx : Nat → Wld → Nat → Nat ⊕ (Nat × Evs × Wld)
  | 0, _, p => .inl p
  | f + 1, W, p => match pDe t n W p with
    | .inl q => .inl q
    | .inr (p', es, W') => if tyS t n p' = 0 then .inr (p', es, W') else
      match pTx f W' p' with
      | .inl q => .inl q
      | .inr (p2, es2, W2) => .inr (p2, (if es = [] then es2 else es), W2)
end TEXT
section DECL2
variable {t : Nat → Int32} {n : Nat} {env env' : Env}
theorem in_nm {a b p : Nat} {full : Prop} [Decidable full] (h1 : a ≤ p) (h2 : p < b) : In a b (nmE t n env p full) := in_app (in_ife h1 h2) (in_ife h1 h2)
theorem in_pa {a b q : Nat} {ps : List Nat} (h1 : a ≤ q) (h2 : q < b) : In a b (paE t n env q ps) := by
  unfold paE
  split
  · exact in_one h1 h2
  · exact in_ife h1 h2
theorem ev_pa {a : Nat} : ∀ f p es ps g p' es' ps' g', 2 ≤ tyS t n p → pPa t n env f p es ps g = .inr (p', es', ps', g') → a ≤ p → In a p es → p < p' ∧ In a p' es'
  | 0, p, es, ps, g, p', es', ps', g', _, h, _, _ => by cases h
  | f + 1, p, es, ps, g, p', es', ps', g', hp, h, ha, hi => by
    rw [pPa] at h
    have hn := ty_nx (t := t) (n := n) (p := p) hp
    split at h
    · rename_i hy
      have hn2 := ty_nx (t := t) (n := n) (p := nxS t n p) (by omega)
      split at h
      · rename_i hy2
        have g2 := ev_pa (a := a) f _ _ _ _ _ _ _ _ (by omega) h (by omega) (in_app (hi.wk (Nat.le_refl _) (by omega)) (in_pa (by omega) (by omega)))
        exact ⟨by omega, g2.2⟩
      · cases h
        exact ⟨by omega, in_app (hi.wk (Nat.le_refl _) (by omega)) (in_pa (by omega) (by omega))⟩
    · cases h
theorem ev_kp {p : Nat} {es : Evs} {p' : Nat} {es' : Evs} {ps : List Nat} {g : Bool} {a : Nat} (h : pKp t n env p es = .inr (p', es', ps, g)) (ha : a ≤ p) (hi : In a p es) : p ≤ p' ∧ In a p' es' := by
  unfold pKp at h
  split at h
  · rename_i hy
    have g := ev_pa (a := a) _ _ _ _ _ _ _ _ _ (by omega) h ha hi
    exact ⟨by omega, g.2⟩
  · cases h
    exact ⟨Nat.le_refl _, hi⟩
theorem ev_ki {kn : Nat} {rs : Nat → Nat → List Nat} {p p' : Nat} {es : Evs} {o : Option Knd} (h : pKi t n env kn rs p = .inr (p', es, o)) : p < p' ∧ In p p' es := by
  unfold pKi at h
  split at h
  · rename_i hy
    have hn := ty_nx (t := t) (n := n) (p := p) (by omega)
    split at h
    · cases h
    · rename_i p1 es1 ps g hk
      have g1 := ev_kp (a := p) hk (by omega) (in_nm (by omega) (by omega))
      have g2 : p1 ≤ if tyS t n p1 = 21 then nxS t n p1 else p1 := by
        split
        · rename_i hy2
          have := ty_nx (t := t) (n := n) (p := p1) (by omega)
          omega
        · exact Nat.le_refl _
      generalize (if tyS t n p1 = 21 then nxS t n p1 else p1) = p2 at h g2
      split at h
      · rename_i hy2
        have hn2 := ty_nx (t := t) (n := n) (p := p2) (by omega)
        split at h
        · cases h
          exact ⟨by omega, g1.2.wk (Nat.le_refl _) (by omega)⟩
        · cases h
          exact ⟨by omega, in_app (g1.2.wk (Nat.le_refl _) (by omega)) (in_ife (by omega) (by omega))⟩
      · cases h
  · cases h
theorem jn_ge {y j : Nat} (h : jnO y = some j) : 2 ≤ y ∧ j ≤ 4 := by
  unfold jnO at h
  split at h
  · cases h
    exact ⟨by omega, by omega⟩
  · split at h
    · cases h
      exact ⟨by omega, by omega⟩
    · split at h
      · cases h
        exact ⟨by omega, by omega⟩
      · split at h
        · cases h
          exact ⟨by omega, by omega⟩
        · split at h
          · cases h
            exact ⟨by omega, by omega⟩
          · cases h
theorem wy_ge {y j : Nat} (h : wyO y = some j) : 2 ≤ y ∧ j ≤ 2 := by
  unfold wyO at h
  split at h
  · cases h
    exact ⟨by omega, by omega⟩
  · split at h
    · cases h
      exact ⟨by omega, by omega⟩
    · split at h
      · cases h
        exact ⟨by omega, by omega⟩
      · cases h
theorem ev_cl {cn p p' : Nat} {es : Evs} {o : Option Cal} (h : pCl t n env cn p = .inr (p', es, o)) : p < p' ∧ In p p' es := by
  unfold pCl at h
  split at h
  · have m1 := ty_nx (t := t) (n := n) (p := p) (by omega)
    generalize nxS t n p = p1 at *
    split at h
    · have m2 := ty_nx (t := t) (n := n) (p := p1) (by omega)
      generalize nxS t n p1 = p2 at *
      split at h
      · have m3 := ty_nx (t := t) (n := n) (p := p2) (by omega)
        generalize nxS t n p2 = p3 at *
        split at h
        · have m4 := ty_nx (t := t) (n := n) (p := p3) (by omega)
          generalize nxS t n p3 = p4 at *
          split at h
          · cases h
          · rename_i j hj
            have m5 := ty_nx (t := t) (n := n) (p := p4) (jn_ge hj).1
            generalize nxS t n p4 = p5 at *
            split at h
            · cases h
            · rename_i w hw
              have m6 := ty_nx (t := t) (n := n) (p := p5) (wy_ge hw).1
              generalize nxS t n p5 = p6 at *
              split at h
              · have m7 := ty_nx (t := t) (n := n) (p := p6) (by omega)
                cases h
                exact ⟨by omega, in_app (in_nm (by omega) (by omega)) (in_ife (by omega) (by omega))⟩
              · cases h
        · cases h
      · cases h
    · cases h
  · cases h
theorem ev_ly {ln p p' : Nat} {es : Evs} {o : Option (List Int32)} (h : pLy t n env ln p = .inr (p', es, o)) : p < p' ∧ In p p' es := by
  unfold pLy at h
  split at h
  · have m1 := ty_nx (t := t) (n := n) (p := p) (by omega)
    generalize nxS t n p = p1 at *
    split at h
    · have m2 := ty_nx (t := t) (n := n) (p := p1) (by omega)
      cases h
      exact ⟨by omega, in_nm (by omega) (by omega)⟩
    · cases h
  · cases h
theorem ev_de {W W' : Wld} {p p' : Nat} {es : Evs} (h : pDe t n W p = .inr (p', es, W')) : p < p' ∧ In p p' es := by
  unfold pDe at h
  split at h
  · have m1 := ty_nx (t := t) (n := n) (p := p) (by omega)
    split at h
    · cases h
    · rename_i hk
      have g := ev_ki hk
      cases h
      exact ⟨by omega, g.2.wk (by omega) (Nat.le_refl _)⟩
  · split at h
    · have m1 := ty_nx (t := t) (n := n) (p := p) (by omega)
      split at h
      · cases h
      · rename_i hk
        have g := ev_cl hk
        cases h
        exact ⟨by omega, g.2.wk (by omega) (Nat.le_refl _)⟩
    · split at h
      · have m1 := ty_nx (t := t) (n := n) (p := p) (by omega)
        split at h
        · cases h
        · rename_i hk
          have g := ev_ly hk
          cases h
          exact ⟨by omega, g.2.wk (by omega) (Nat.le_refl _)⟩
      · split at h
        · have m1 := ty_nx (t := t) (n := n) (p := p) (by omega)
          split at h
          · cases h
          · rename_i hk
            have g := ev_mt hk
            cases h
            exact ⟨by omega, in_app (g.2.wk (by omega) (Nat.le_refl _)) (in_ife (by omega) (by omega))⟩
        · cases h
theorem sy_pa : ∀ f p es es' ps ps' g g', psR (pPa t n env f p es ps g) = psR (pPa t n env' f p es' ps' g')
  | 0, p, es, es', ps, ps', g, g' => rfl
  | f + 1, p, es, es', ps, ps', g, g' => by
    rw [pPa, pPa]
    exact ps_ite (fun _ => ps_ite (fun _ => sy_pa f _ _ _ _ _ _ _) (fun _ => rfl)) (fun _ => rfl)
theorem sy_ki {kn kn' : Nat} {rs rs' : Nat → Nat → List Nat} {p : Nat} : psR (pKi t n env kn rs p) = psR (pKi t n env' kn' rs' p) := by
  unfold pKi
  refine ps_ite (fun _ => ?_) (fun _ => rfl)
  have h : psR (pKp t n env (nxS t n p) (nmE t n env p (kn = 24))) = psR (pKp t n env' (nxS t n p) (nmE t n env' p (kn' = 24))) := by
    unfold pKp
    exact ps_ite (fun _ => sy_pa _ _ _ _ _ _ _ _) (fun _ => rfl)
  rcases ps_or h with ⟨q, e1, e2⟩ | ⟨p2, ⟨es2, x2, y2⟩, ⟨es3, x3, y3⟩, e1, e2⟩
  · rw [e1, e2]
  · rw [e1, e2]
    dsimp only
    refine ps_ite (fun _ => ?_) (fun _ => rfl)
    have e : ∀ (P : Prop) [Decidable P] (a b : Nat ⊕ (Nat × Evs × Option Knd)) (q : Nat ⊕ Nat), psR a = q → psR b = q → psR (if P then a else b) = q := fun P _ a b q h1 h2 => by
      split
      · exact h1
      · exact h2
    rw [e _ _ _ (.inr (nxS t n (if tyS t n p2 = 21 then nxS t n p2 else p2))) rfl rfl, e _ _ _ (.inr (nxS t n (if tyS t n p2 = 21 then nxS t n p2 else p2))) rfl rfl]
theorem sy_cl {cn cn' p : Nat} : psR (pCl t n env cn p) = psR (pCl t n env' cn' p) := by
  unfold pCl
  refine ps_ite (fun _ => ps_ite (fun _ => ps_ite (fun _ => ps_ite (fun _ => ?_) (fun _ => rfl)) (fun _ => rfl)) (fun _ => rfl)) (fun _ => rfl)
  split
  · rfl
  · split
    · rfl
    · exact ps_ite (fun _ => rfl) (fun _ => rfl)
theorem sy_ly {ln ln' p : Nat} : psR (pLy t n env ln p) = psR (pLy t n env' ln' p) := by
  unfold pLy
  exact ps_ite (fun _ => ps_ite (fun _ => rfl) (fun _ => rfl)) (fun _ => rfl)
theorem sy_de (W W' : Wld) (p : Nat) : psR (pDe t n W p) = psR (pDe t n W' p) := by
  unfold pDe
  refine ps_ite (fun _ => ?_) (fun _ => ps_ite (fun _ => ?_) (fun _ => ps_ite (fun _ => ?_) (fun _ => ps_ite (fun _ => ?_) (fun _ => rfl))))
  · rcases ps_or (sy_ki (t := t) (n := n) (env := enW W.1 W.2.1 W.2.2.1 (-1)) (env' := enW W'.1 W'.2.1 W'.2.2.1 (-1)) (kn := W.1.length) (kn' := W'.1.length) (rs := rwW W.1) (rs' := rwW W'.1) (p := nxS t n p)) with ⟨q, e1, e2⟩ | ⟨p2, ⟨es2, x2⟩, ⟨es3, x3⟩, e1, e2⟩
    · rw [e1, e2]
    · rw [e1, e2]
      rfl
  · rcases ps_or (sy_cl (t := t) (n := n) (env := enW W.1 W.2.1 W.2.2.1 (-1)) (env' := enW W'.1 W'.2.1 W'.2.2.1 (-1)) (cn := W.2.1.length) (cn' := W'.2.1.length) (p := nxS t n p)) with ⟨q, e1, e2⟩ | ⟨p2, ⟨es2, x2⟩, ⟨es3, x3⟩, e1, e2⟩
    · rw [e1, e2]
    · rw [e1, e2]
      rfl
  · rcases ps_or (sy_ly (t := t) (n := n) (env := enW W.1 W.2.1 W.2.2.1 (-1)) (env' := enW W'.1 W'.2.1 W'.2.2.1 (-1)) (ln := W.2.2.1.length) (ln' := W'.2.2.1.length) (p := nxS t n p)) with ⟨q, e1, e2⟩ | ⟨p2, ⟨es2, x2⟩, ⟨es3, x3⟩, e1, e2⟩
    · rw [e1, e2]
    · rw [e1, e2]
      rfl
  · rcases ps_or (sy_mt (t := t) (n := n) (env := enW W.1 W.2.1 W.2.2.1 (-1)) (env' := enW W'.1 W'.2.1 W'.2.2.1 (-1)) (mn := W.2.2.2.length) (mn' := W'.2.2.2.length) (p := nxS t n p)) with ⟨q, e1, e2⟩ | ⟨p2, ⟨es2, x2⟩, ⟨es3, x3⟩, e1, e2⟩
    · rw [e1, e2]
    · rw [e1, e2]
      rfl
theorem sy_tx : ∀ f (W W' : Wld) p, psR (pTx t n f W p) = psR (pTx t n f W' p)
  | 0, W, W', p => rfl
  | f + 1, W, W', p => by
    rw [pTx, pTx]
    rcases ps_or (sy_de (t := t) (n := n) W W' p) with ⟨q, e1, e2⟩ | ⟨p2, ⟨es2, x2⟩, ⟨es3, x3⟩, e1, e2⟩
    · rw [e1, e2]
    · rw [e1, e2]
      dsimp only
      refine ps_ite (fun _ => rfl) (fun _ => ?_)
      rcases ps_or (sy_tx f x2 x3 p2) with ⟨q, e3, e4⟩ | ⟨p4, ⟨es4, x4⟩, ⟨es5, x5⟩, e3, e4⟩
      · rw [e3, e4]
      · rw [e3, e4]
        rfl
end DECL2

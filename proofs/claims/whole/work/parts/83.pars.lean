/-! E, AS THE DOCUMENT HAS IT: a text's places to trees. Both programs are held against this -/
abbrev Ast : Type := Std.Format
/-- a node: what it is, two numbers, three parts -/
def aN (op : Nat) (v w : Int) (a b c : Ast) : Ast := .tag op (.nest v (.nest w (.append a (.append b c))))
/-- the names told (kinds, calls, layers), which kinds are bare, how many places a call has, the own call (-1 in a program, -2 where it isn't told) -/
abbrev Env : Type := (List Int32 → Option Nat) × (List Int32 → Option Nat) × (List Int32 → Option Nat) × (Nat → Bool) × (Nat → Nat) × Int
/-- rules broken: place, rule -/
abbrev Evs : Type := List (Nat × Nat)
/-- the place of what can't stand there, or: the place behind, how many nodes, what was broken, the tree -/
abbrev PR : Type := Nat ⊕ (Nat × Nat × Evs × Ast)
abbrev Pf : Type := List (List Int32) → Nat → Nat → PR
def bnd (r : PR) (f : Nat → Nat → Evs → Ast → PR) : PR := match r with
  | .inl q => .inl q
  | .inr (p, c, es, x) => f p c es x
/-- one node more -/
def cnE (c w : Nat) : Evs := if Int32.ofNat c = 300 then [(w, 7)] else []
def idx : Option Nat → Int
  | some k => k
  | none => -1
/-- the latest of that name -/
def lstI (vs : List (List Int32)) (nm : List Int32) : Option Nat := ((List.range vs.length).filter fun k => decide (vs[k]? = some nm)).getLast?
section PARS
variable (t : Nat → Int32) (n : Nat)
def nmS (p : Nat) : List Int32 := txN t p (lnS t n p)
/-- [-] NUMBER -/
def pSg (p : Nat) : Nat ⊕ (Int × Nat) :=
  if tyS t n p = 10 then (if tyS t n (nxS t n p) = 3 then .inr (-(vaS t n (nxS t n p)).toInt, nxS t n (nxS t n p)) else .inl (nxS t n p))
  else if tyS t n p = 3 then .inr ((vaS t n p).toInt, nxS t n p) else .inl p
def pLk (sub : Pf) (s1 s2 : Nat) (vs : List (List Int32)) : Nat → Nat → Nat → Evs → List (Nat × Ast) → Nat ⊕ (Nat × Nat × Evs × List (Nat × Ast))
  | 0, p, _, _, _ => .inl p
  | f + 1, p, c, es, l => if tyS t n p = s1 ∨ tyS t n p = s2 then
      (match sub vs (nxS t n p) (c + 1) with
      | .inl q => .inl q
      | .inr (p', c', es', y) => pLk sub s1 s2 vs f p' c' (es ++ cnE c p ++ es') (l ++ [(tyS t n p, y)]))
    else .inr (p, c, es, l)
end PARS
def lkA : List (Nat × Ast) → Ast
  | [] => .nil
  | (s, y) :: r => aN (30 + s) 0 0 y (lkA r) .nil
def mkCh (x : Ast) (l : List (Nat × Ast)) : Ast := if l = [] then x else aN 10 0 l.length x (lkA l) .nil
section PARS2
variable (t : Nat → Int32) (n : Nat)
def pCh (sub : Pf) (s1 s2 : Nat) : Pf := fun vs p c => bnd (sub vs p c) fun p1 c1 es x => match pLk t n sub s1 s2 vs (n + 1 - p1) p1 c1 es [] with
  | .inl q => .inl q
  | .inr (p2, c2, es2, l) => .inr (p2, c2, es2, mkCh x l)
variable (env : Env)
def pCo (sm : Pf) : Pf := fun vs p c => bnd (sm vs p c) fun p1 c1 es x =>
  if tyS t n p1 = 15 ∨ tyS t n p1 = 17 ∨ tyS t n p1 = 16 then
    bnd (sm vs (nxS t n p1) (c1 + 1)) fun p2 c2 es2 y => .inr (p2, c2, es ++ cnE c1 p1 ++ es2, aN 8 (tyS t n p1) 0 x y .nil)
  else if tyS t n p1 = 33 then
    (if tyS t n (nxS t n p1) = 2 then .inr (nxS t n (nxS t n p1), c1 + 1, es ++ cnE c1 p1 ++ (if env.1 (nmS t n (nxS t n p1)) = none then [(nxS t n p1, 3)] else []), aN 9 (idx (env.1 (nmS t n (nxS t n p1)))) 0 x .nil .nil) else .inl (nxS t n p1))
  else .inr (p1, c1, es, x)
def pAr (e : Pf) (most : Nat) (vs : List (List Int32)) : Nat → Nat → Nat → Evs → List Ast → Nat ⊕ (Nat × Nat × Evs × List Ast)
  | 0, p, _, _, _ => .inl p
  | f + 1, p, c, es, l => match e vs (nxS t n p) c with
    | .inl q => .inl q
    | .inr (p2, c2, es2, x) =>
      if tyS t n p2 = 6 then pAr e most vs f p2 c2 (es ++ (if 0 < most ∧ l.length = most then [(nxS t n p, 4)] else []) ++ es2) (l ++ [x])
      else if tyS t n p2 = 5 then .inr (nxS t n p2, c2, es ++ (if 0 < most ∧ l.length = most then [(nxS t n p, 4)] else []) ++ es2 ++ (if 0 < most ∧ l.length + 1 < most then [(p2, 4)] else []), l ++ [x]) else .inl p2
/-- ( E {, E} ), made a node -/
def pAN (e : Pf) (most : Nat) (vs : List (List Int32)) (p c : Nat) (es : Evs) (op : Nat) (v : Int) : PR := match pAr t n e most vs (n + 1 - p) p c es [] with
  | .inl q => .inl q
  | .inr (p', c', es', l) => .inr (p', c', es', aN op v l.length (l.getD 0 .nil) (l.getD 1 .nil) (l.getD 2 .nil))
def pEb (e pp : Pf) : Pf := fun vs p c =>
  if tyS t n p = 42 then
    (if tyS t n (nxS t n p) = 2 then
      (if tyS t n (nxS t n (nxS t n p)) = 14 then
        bnd (e vs (nxS t n (nxS t n (nxS t n p))) (c + 1)) fun p3 c3 es3 a =>
          if tyS t n p3 = 43 then bnd (e (vs ++ [nmS t n (nxS t n p)]) (nxS t n p3) c3) fun p4 c4 es4 b => .inr (p4, c4, cnE c p ++ es3 ++ es4, aN 1 vs.length 0 a b .nil)
          else .inl p3
      else .inl (nxS t n (nxS t n p)))
    else .inl (nxS t n p))
  else if tyS t n p = 29 then
    bnd (e vs (nxS t n p) (c + 1)) fun p1 c1 es1 a =>
      if tyS t n p1 = 43 then bnd (e vs (nxS t n p1) c1) fun p2 c2 es2 b =>
        if tyS t n p2 = 44 then bnd (e vs (nxS t n p2) c2) fun p3 c3 es3 x => .inr (p3, c3, cnE c p ++ es1 ++ es2 ++ es3, aN 2 0 0 a b x)
        else .inl p2
      else .inl p1
  else if tyS t n p = 45 ∨ tyS t n p = 46 then
    (if tyS t n (nxS t n p) = 2 then
      (if tyS t n (nxS t n (nxS t n p)) = 47 then
        bnd (e vs (nxS t n (nxS t n (nxS t n p))) (c + 1)) fun p3 c3 es3 a => .inr (p3, c3, cnE c p ++ (if env.2.2.1 (nmS t n (nxS t n p)) = none then [(nxS t n p, 3)] else []) ++ es3, aN (if tyS t n p = 45 then 3 else 4) (idx (env.2.2.1 (nmS t n (nxS t n p)))) 0 a .nil .nil)
      else .inl (nxS t n (nxS t n p)))
    else .inl (nxS t n p))
  else if tyS t n p = 48 then
    bnd (e vs (nxS t n p) (c + 1)) fun p1 c1 es1 a =>
      if tyS t n p1 = 49 then
        (if tyS t n (nxS t n p1) = 2 then
          (if tyS t n (nxS t n (nxS t n p1)) = 47 then
            bnd (e (vs ++ [nmS t n (nxS t n p1)]) (nxS t n (nxS t n (nxS t n p1))) c1) fun p4 c4 es4 b => .inr (p4, c4, cnE c p ++ es1 ++ es4, aN 5 vs.length 0 a b .nil)
          else .inl (nxS t n (nxS t n p1)))
        else .inl (nxS t n p1))
      else .inl p1
  else if tyS t n p = 50 ∨ tyS t n p = 51 then
    bnd (e vs (nxS t n p) (c + 1)) fun p1 c1 es1 a => .inr (p1, c1, cnE c p ++ es1, aN (if tyS t n p = 50 then 6 else 7) 0 0 a .nil .nil)
  else pCo t n env (pCh t n (pCh t n pp 11 12) 9 10) vs p c
def pPb (e pp : Pf) : Pf := fun vs p c =>
  if tyS t n p = 3 ∨ tyS t n p = 10 then
    (match pSg t n p with
    | .inl q => .inl q
    | .inr (v, p1) => .inr (p1, c + 1, cnE c p, aN 11 v 0 .nil .nil .nil))
  else if tyS t n p = 2 then
    (if tyS t n (nxS t n p) = 4 then
      pAN t n e (match env.1 (nmS t n p) with
        | some _ => 1
        | none => match env.2.1 (nmS t n p) with
          | some k => env.2.2.2.2.1 k
          | none => 0) vs (nxS t n p) (c + 1) (cnE c p ++ (match env.1 (nmS t n p) with
        | some k => if env.2.2.2.1 k = true then [(p, 6)] else []
        | none => match env.2.1 (nmS t n p) with
          | some _ => []
          | none => [(p, 3)])) (match env.1 (nmS t n p) with
        | some _ => 13
        | none => 14) (match env.1 (nmS t n p) with
        | some k => k
        | none => idx (env.2.1 (nmS t n p)))
    else .inr (nxS t n p, c + 1, cnE c p ++ (if lstI vs (nmS t n p) = none then [(p, 3)] else []), aN 12 (idx (lstI vs (nmS t n p))) 0 .nil .nil .nil))
  else if tyS t n p = 52 then
    (if tyS t n (nxS t n p) = 4 then pAN t n e (if 0 ≤ env.2.2.2.2.2 then env.2.2.2.2.1 env.2.2.2.2.2.toNat else 0) vs (nxS t n p) (c + 1) (cnE c p ++ (if env.2.2.2.2.2 = -1 then [(p, 3)] else [])) 15 0
    else .inr (nxS t n p, c + 1, cnE c p ++ (if env.2.2.2.2.2 = -1 then [(p, 3)] else []), aN 15 0 0 .nil .nil .nil))
  else if tyS t n p = 13 then
    bnd (pp vs (nxS t n p) (c + 1)) fun p1 c1 es1 a => .inr (p1, c1, cnE c p ++ es1, aN 16 0 0 a .nil .nil)
  else if tyS t n p = 4 then
    bnd (e vs (nxS t n p) c) fun p1 c1 es1 a => if tyS t n p1 = 5 then .inr (nxS t n p1, c1, es1, a) else .inl p1
  else .inl p
/-- E (false) and P (true), so many may still be open -/
def pX : Nat → Bool → Pf
  | 0, _ => fun _ p _ => .inl p
  | o + 1, false => pEb t n env (pX o false) (pX o true)
  | o + 1, true => pPb t n env (pX o false) (pX o true)
end PARS2

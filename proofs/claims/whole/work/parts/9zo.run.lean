/-! PURE: PROGRAMS THAT RUN -/
def nmV (x : Int64) : Int32 := Int64.toInt32 x
def kdV (x : Int64) : Int32 := Int64.toInt32 (x >>> (Int32.toInt64 (32 : Int32) &&& 63))
/-- a value, or: failed with a value, or: ended -/
abbrev Rs : Type := Int64 ⊕ (Int64 ⊕ Nat)
/-- steps, looks, numbers shown, how many methods began, the first of them -/
abbrev Es : Type := Nat × Nat × List Int32 × Nat × List Nat
def bnR (r : Rs × Es) (f : Int64 → Es → Rs × Es) : Rs × Es := match r with
  | (.inl v, S) => f v S
  | (.inr e, S) => (.inr e, S)
def stR (fuel : Nat) (S : Es) (f : Es → Rs × Es) : Rs × Es := if S.1 = fuel then (.inr (.inr 4), S) else f (S.1 + 1, S.2)
/-- so many steps at once -/
def stN (fuel : Nat) : Nat → Es → (Es → Rs × Es) → Rs × Es
  | 0, S, f => f S
  | n + 1, S, f => stR fuel S fun S => stN fuel n S f
def faR (n : Int32) (S : Es) : Rs × Es := (.inr (.inl (vlX 2 n)), S)
def cmV (v : Int) (a b : Int32) : Bool := if v = 16 then decide (a = b) else if v = 17 then decide (a ≤ b) else decide (a < b)
/-- what a method may call: a call, or what is next -/
abbrev Cf : Type := Nat → List Int64 → List Nat → Es → Rs × Es
abbrev Nf : Type := List Int64 → List Nat → Es → Rs × Es
section EVAL
variable (W : Wld) (fuel : Nat) (pl : Nat) (cl : Cf) (fu : Nf)
/-- E with the variables vs and the layers on; or the links of a chain behind a number -/
def ev : Ast → Bool → Int32 → List Int64 → List Nat → Es → Rs × Es
  | .tag op (.nest v (.nest w (.append a (.append b c)))), lk, acc, vs, on, S =>
    if lk = true then
      bnR (ev a false 0 vs on S) fun x S =>
        if op = 42 ∧ nmV x = 0 then faR 3 S
        else match b with
          | .nil => (.inl (vlX 1 (if op = 39 then acc + nmV x else if op = 40 then acc - nmV x else if op = 41 then acc * nmV x else acc / nmV x)), S)
          | _ => ev b true (if op = 39 then acc + nmV x else if op = 40 then acc - nmV x else if op = 41 then acc * nmV x else acc / nmV x) vs on S
    else if op = 1 then stR fuel S fun S => bnR (ev a false 0 vs on S) fun x S => ev b false 0 (vs ++ [x]) on S
    else if op = 2 then stR fuel S fun S => bnR (ev a false 0 vs on S) fun x S => if nmV x = 0 then ev c false 0 vs on S else ev b false 0 vs on S
    else if op = 3 then stR fuel S fun S => ev a false 0 vs (on.filter (· ≠ v.toNat) ++ [v.toNat]) S
    else if op = 4 then stR fuel S fun S => ev a false 0 vs (on.filter (· ≠ v.toNat)) S
    else if op = 5 then stR fuel S fun S => match ev a false 0 vs on S with
      | (.inr (.inl x), S) => ev b false 0 (vs ++ [x]) on S
      | r => r
    else if op = 6 then stR fuel S fun S => bnR (ev a false 0 vs on S) fun x S => (.inr (.inl x), S)
    else if op = 7 then stR fuel S fun S => bnR (ev a false 0 vs on S) fun x S => if S.2.2.1.length = 512 then (.inr (.inr 5), S) else (.inl x, S.1, S.2.1, S.2.2.1 ++ [nmV x], S.2.2.2)
    else if op = 8 then stR fuel S fun S => bnR (ev a false 0 vs on S) fun x S => bnR (ev b false 0 vs on S) fun y S => (.inl (vlX 1 (if cmV v (nmV x) (nmV y) = true then 1 else 0)), S)
    else if op = 9 then stR fuel S fun S => bnR (ev a false 0 vs on S) fun x S => (.inl (vlX 1 (if blW W.1 (kdV x).toNatClampNeg v.toNat = true then 1 else 0)), S)
    else if op = 10 then stN fuel w.toNat S fun S => bnR (ev a false 0 vs on S) fun x S => ev b true (nmV x) vs on S
    else if op = 11 then stR fuel S fun S => (.inl (vlX 1 (Int32.ofInt v)), S)
    else if op = 12 then stR fuel S fun S => (.inl (vs.getD v.toNat 0), S)
    else if op = 13 then stR fuel S fun S => bnR (ev a false 0 vs on S) fun x S => (.inl (vlX (Int32.ofInt v) (nmV x)), S)
    else if op = 16 then stR fuel S fun S => bnR (ev a false 0 vs on S) fun x S => (.inl (vlX 1 (nmV x)), S)
    else stR fuel S fun S =>
      if w = 0 then fu (vs.take pl) on S
      else bnR (ev a false 0 vs on S) fun x S =>
        if w = 1 then (if op = 14 then cl v.toNat [x] on S else fu [x] on S)
        else bnR (ev b false 0 vs on S) fun y S =>
          if w = 2 then (if op = 14 then cl v.toNat [x, y] on S else fu [x, y] on S)
          else bnR (ev c false 0 vs on S) fun z S => if op = 14 then cl v.toNat [x, y, z] on S else fu [x, y, z] on S
  | _, _, _, _, _, S => (.inl 0, S)
end EVAL
/-- the rows of a choice -/
abbrev Chc : Type := Nat × (Nat → List Nat × Bool)
abbrev Ef : Type := Chc → Nat → Nat → List Int64 → List Nat → Es → Rs × Es
section RUN
variable (W : Wld) (wy ch fuel : Nat) (en : Ef)
/-- methods of a role run, from the i-th to the last: their values don't count -/
def ruU (X : Chc) (role : Nat) (args : List Int64) (on : List Nat) : Nat → Nat → Es → (Es → Rs × Es) → Rs × Es
  | 0, _, S, f => f S
  | n + 1, i, S, f => bnR (en X role i args on S) fun _ S => ruU X role args on n (i + 1) S f
/-- the same from the last to the first -/
def ruD (X : Chc) (role : Nat) (args : List Int64) (on : List Nat) : Nat → Es → (Es → Rs × Es) → Rs × Es
  | 0, S, f => f S
  | n + 1, S, f => bnR (en X role n args on S) fun _ S => ruD X role args on n S f
/-- plain ones joined, from the i-th on -/
def jnR (X : Chc) (jn : Nat) (args : List Int64) (on : List Nat) : Nat → Nat → Int32 → Es → (Int32 → Es → Rs × Es) → Rs × Es
  | 0, _, v, S, f => f v S
  | n + 1, i, v, S, f => bnR (en X 0 i args on S) fun x S =>
    if jn = 1 then jnR X jn args on n (i + 1) (v + nmV x) S f
    else if jn = 4 then jnR X jn args on n (i + 1) (if i = 0 then nmV x else if nmV x < v then nmV x else v) S f
    else if jn = 2 ∧ nmV x = 0 then f 0 S
    else if jn = 3 ∧ nmV x ≠ 0 then f 1 S
    else jnR X jn args on n (i + 1) v S f
def inR (X : Chc) (args : List Int64) (on : List Nat) (S : Es) : Rs × Es :=
  if jnW W.2.1 X.1 = 0 ∧ (X.2 0).1.length = 0 then faR 2 S
  else ruU en X 2 args on (X.2 2).1.length 0 S fun S =>
    if jnW W.2.1 X.1 = 0 then bnR (en X 0 0 args on S) fun v S => ruD en X 3 args on (X.2 3).1.length S fun S => (.inl v, S)
    else jnR en X (jnW W.2.1 X.1) args on (X.2 0).1.length 0 (if jnW W.2.1 X.1 = 2 then 1 else 0) S fun v S => ruD en X 3 args on (X.2 3).1.length S fun S => (.inl (vlX 1 v), S)
/-- the kinds of arguments -/
def kdA' (args : List Int64) (i : Nat) : Nat := match args[i]? with
  | some x => (kdV x).toNatClampNeg
  | none => 0
def nmA (args : List Int64) (i : Nat) : Int := match args[i]? with
  | some x => (nmV x).toInt
  | none => 0
noncomputable def clR (c : Nat) (args : List Int64) (on : List Nat) (S : Es) : Rs × Es :=
  if ((apL W on c (kdA' args) (nmA args) W.2.2.2.length).any fun m => decide (rlM W.2.2.2 m = 0)) = true then
    (if 0 < (rowW W wy on c (kdA' args) (apL W on c (kdA' args) (nmA args) W.2.2.2.length) 1).1.length then en (c, rowW W wy on c (kdA' args) (apL W on c (kdA' args) (nmA args) W.2.2.2.length)) 1 0 args on (S.1, S.2.1 + loN W c ch (kdA' args), S.2.2)
    else if (rowW W wy on c (kdA' args) (apL W on c (kdA' args) (nmA args) W.2.2.2.length) 1).2 = true then faR 2 (S.1, S.2.1 + loN W c ch (kdA' args), S.2.2)
    else inR W en (c, rowW W wy on c (kdA' args) (apL W on c (kdA' args) (nmA args) W.2.2.2.length)) args on (S.1, S.2.1 + loN W c ch (kdA' args), S.2.2))
  else faR 1 (S.1, S.2.1 + loN W c ch (kdA' args), S.2.2)
/-- what is next, in the method at place i of a role's row -/
def fuR (X : Chc) (role i : Nat) (args : List Int64) (on : List Nat) (S : Es) : Rs × Es :=
  if role = 1 then
    (if i + 1 < (X.2 1).1.length then en X 1 (i + 1) args on S else if (X.2 1).2 = true then faR 2 S else inR W en X args on S)
  else if role ≠ 0 ∨ jnW W.2.1 X.1 ≠ 0 then faR 1 S
  else if i + 1 < (X.2 0).1.length then en X 0 (i + 1) args on S
  else faR (if (X.2 0).2 = true then 2 else 1) S
end RUN
def bdM (ms : List (Mtd × Bool)) (m : Nat) : Ast := ((ms[m - 1]?).map (·.1.2.2.2.2.2.1)).getD .nil
/-- a method begins, so many more may be inside each other -/
noncomputable def enK (W : Wld) (wy ch fuel : Nat) : Nat → Ef
  | 0 => fun _ _ _ _ _ S => faR 4 S
  | k + 1 => fun X role i args on S =>
    ev W fuel (plW W.2.1 X.1) (clR W wy ch (enK W wy ch fuel k)) (fuR W (enK W wy ch fuel k) X (rlM W.2.2.2 ((X.2 role).1.getD i 0)) i) (bdM W.2.2.2 ((X.2 role).1.getD i 0)) false 0 args on (S.1, S.2.1, S.2.2.1, S.2.2.2.1 + 1, if S.2.2.2.1 < 512 then S.2.2.2.2 ++ [(X.2 role).1.getD i 0] else S.2.2.2.2)
/-- a program runs -/
noncomputable def rnP (W : Wld) (wy ch fuel : Nat) (pg : Ast) : Rs × Es := ev W fuel 0 (clR W wy ch (enK W wy ch fuel 24)) (fun _ _ S => faR 1 S) pg false 0 [] [] (0, 0, [], 0, [])

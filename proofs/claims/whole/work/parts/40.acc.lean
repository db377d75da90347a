/-! READING AND WRITING OF HEAPS, for programs that are printed out of the bytecode (dec.py) -/
def oI : Value → Option Int32
  | .int x => some x
  | _ => none
def oL : Value → Option Int64
  | .long x => some x
  | _ => none
def oR : Value → Option Value
  | .ref a => some (.ref a)
  | .null => some .null
  | .retAddr j => some (.retAddr j)
  | _ => none
/-- a field of an object of kind ci -/
def g_V (h : List ab_E) (v : Value) (ci k : Nat) : Option Value := match v with
  | .ref a => (ab_obj h a ci).bind fun fs => fs[k]?
  | _ => none
def g_I (h : List ab_E) (v : Value) (ci k : Nat) : Option Int32 := (g_V h v ci k).bind oI
def g_L (h : List ab_E) (v : Value) (ci k : Nat) : Option Int64 := (g_V h v ci k).bind oL
def g_R (h : List ab_E) (v : Value) (ci k : Nat) : Option Value := (g_V h v ci k).bind oR
/-- a field written -/
def g_P (h : List ab_E) (v : Value) (ci k : Nat) (x : Value) : Option (List ab_E) := match v with
  | .ref a => (ab_obj h a ci).bind fun fs => if k < fs.length then some (h.set a (.inr (.inr (ci, fs.set k x)))) else none
  | _ => none
/-- is it an object of kind ci? -/
def isO (h : List ab_E) (v : Value) (ci : Nat) : Bool := match v with
  | .ref a => (ab_obj h a ci).isSome
  | _ => false
def xI (j t : Nat) (i : Int32) : Option Value := (hb_Xa none j).bind fun q => if q.1 = t ∧ ¬ (i < 0 ∨ q.2.1 ≤ i.toNatClampNeg) then some (q.2.2 i.toNatClampNeg) else none
def a_I (h : List ab_E) (v : Value) (i : Int32) : Option Int32 := match v with
  | .ref a => (ab_arI h a 0).bind fun l => if i < 0 ∨ l.length ≤ i.toNatClampNeg then none else some (l.getD i.toNatClampNeg 0)
  | .retAddr j => (xI j 0 i).bind oI
  | _ => none
def a_L (h : List ab_E) (v : Value) (i : Int32) : Option Int64 := match v with
  | .ref a => (ab_arL h a).bind fun l => if i < 0 ∨ l.length ≤ i.toNatClampNeg then none else some (l.getD i.toNatClampNeg 0)
  | .retAddr j => (xI j 1 i).bind oL
  | _ => none
def a_B (h : List ab_E) (v : Value) (i : Int32) : Option Int32 := match v with
  | .ref a => (match ab_arI h a 2 with
    | some l => if i < 0 ∨ l.length ≤ i.toNatClampNeg then none else some (l.getD i.toNatClampNeg 0)
    | none => (ab_arI h a 3).bind fun l => if i < 0 ∨ l.length ≤ i.toNatClampNeg then none else some (l.getD i.toNatClampNeg 0))
  | .retAddr j => (xI j 2 i).bind oI
  | _ => none
def a_R (h : List ab_E) (v : Value) (i : Int32) : Option Value := match v with
  | .ref a => (ab_arR h a).bind fun q => if i < 0 ∨ q.2.length ≤ i.toNatClampNeg ∨ ¬ (hb_O (q.1 - 4)).map (fun t => t.isReference) = some true then none else some (ab_rf (q.2.getD i.toNatClampNeg none))
  | _ => none
def a_N (h : List ab_E) (v : Value) : Option Int32 := match v with
  | .ref a => (match h[a]? with
    | some (.inr (.inl (t, x))) => if t < 4 ∨ (hb_O (t - 4)).isSome = true then some (Int32.ofNat (ab_len x)) else none
    | _ => none)
  | .retAddr j => (hb_Xa none j).map fun q => Int32.ofNat q.2.1
  | _ => none
def w_I (h : List ab_E) (v : Value) (i x : Int32) : Option (List ab_E) := match v with
  | .ref a => (ab_arI h a 0).bind fun l => if i < 0 ∨ l.length ≤ i.toNatClampNeg then none else some (h.set a (.inr (.inl (0, .inl (l.set i.toNatClampNeg x)))))
  | _ => none
def w_L (h : List ab_E) (v : Value) (i : Int32) (x : Int64) : Option (List ab_E) := match v with
  | .ref a => (ab_arL h a).bind fun l => if i < 0 ∨ l.length ≤ i.toNatClampNeg then none else some (h.set a (.inr (.inl (1, .inr (.inl (l.set i.toNatClampNeg x))))))
  | _ => none
def w_B (h : List ab_E) (v : Value) (i x : Int32) : Option (List ab_E) := match v with
  | .ref a => (match ab_arI h a 2 with
    | some l => if i < 0 ∨ l.length ≤ i.toNatClampNeg then none else some (h.set a (.inr (.inl (2, .inl (l.set i.toNatClampNeg (vp_nar .byte x))))))
    | none => (ab_arI h a 3).bind fun l => if i < 0 ∨ l.length ≤ i.toNatClampNeg then none else some (h.set a (.inr (.inl (3, .inl (l.set i.toNatClampNeg (vp_nar .boolean x)))))))
  | _ => none
/-- locals: fewer may be known -/
def ab_nd (lv : ab_L) : Prop := (lv.map Prod.fst).Nodup

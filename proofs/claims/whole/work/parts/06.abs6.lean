/-! runs of methods -/
theorem ab_z_set {h : List ab_E} {a : Nat} {e x : ab_E} (ha : h[a]? = some e) (hx : ab_z1 x = ab_z1 e) : ab_z (h.set a x) = ab_z h := by
  unfold ab_z
  rw [List.map_set, hx]
  congr 1
  apply List.ext_getElem?
  intro j
  by_cases hj : a = j
  · subst hj
    have hl : a < (h.map ab_z1).length := by rw [List.length_map]; exact (List.getElem?_eq_some_iff.mp ha).1
    rw [List.getElem?_set_self hl, List.getElem?_map, ha]
    rfl
  · rw [List.getElem?_set_ne hj]
theorem ab_z_push (h : List ab_E) (x : ab_E) : ab_z (h ++ [x]) = ab_z h + ab_z1 x := by
  unfold ab_z
  rw [List.map_append, List.sum_append]
  simp
theorem ab_s5_z {fT : ab_FT} {oc : Nat → Option FieldType} {cl : List vw_C} {h h' : List ab_E} {i : Instr} {k : Nat} {st st' : List Value} (hs : ab_s5 fT oc cl h i k st = some (st', h')) : h'.length = h.length ∧ ab_z h' = ab_z h := by
  unfold ab_s5 at hs
  split at hs
  · obtain ⟨⟨ci, j, ty, ok⟩, h1, h2⟩ := Option.bind_eq_some_iff.mp hs
    obtain ⟨fs, h3, h4⟩ := Option.bind_eq_some_iff.mp h2
    split at h4
    · cases h4
      exact ⟨List.length_set, ab_z_set (ab_obj_eq h3) (by show (fs.set _ _).length = fs.length; rw [List.length_set])⟩
    · cases h4
  · obtain ⟨f, h1, h2⟩ := Option.bind_eq_some_iff.mp hs
    split at h2
    · cases h2
    · cases h2
      exact ⟨List.length_set, ab_z_set (ab_arI_eq h1) List.length_set⟩
  · obtain ⟨f, h1, h2⟩ := Option.bind_eq_some_iff.mp hs
    split at h2
    · cases h2
    · cases h2
      exact ⟨List.length_set, ab_z_set (ab_arL_eq h1) List.length_set⟩
  · split at hs
    · rename_i h1
      split at hs
      · cases hs
      · cases hs
        exact ⟨List.length_set, ab_z_set (ab_arI_eq h1) List.length_set⟩
    · obtain ⟨f, h1, h2⟩ := Option.bind_eq_some_iff.mp hs
      split at h2
      · cases h2
      · cases h2
        exact ⟨List.length_set, ab_z_set (ab_arI_eq h1) List.length_set⟩
  · obtain ⟨⟨u, f⟩, h1, h2⟩ := Option.bind_eq_some_iff.mp hs
    split at h2
    · split at h2
      · cases h2
      · split at h2
        · cases h2
          exact ⟨List.length_set, ab_z_set (ab_arR_eq h1).1 List.length_set⟩
        · cases h2
    · cases h2
  · cases hs
/-- a method: its class's number, its name, code, locals, what it gives, whether it is a constructor -/
abbrev ab_MI : Type := Nat × MethodName × ByteArray × Nat × Option FieldType × Bool
/-- what was there before: static fields by class and place in the pool; fields of its objects by a number, and what they hold; its arrays (kind, length, contents); String constants; which of it are Strings -/
abbrev ab_Y : Type := (Nat → Nat → Option Nat) × (Nat → Nat → Option (List Nat)) × (Nat → Nat → Bool) × (Nat → Nat → Nat → Bool) × (Nat → Nat → Bool) × (Nat → Bool) × (Nat → Nat → Bool)
/-- .. and tables of references: new arrays of references (class, place in the pool: their kind); arrays of arrays (their kinds, the outermost first); which objects fit into arrays of a kind; casts of objects (class, place, kind); places that name String; what lies ahead of all that is new; what differs -/
abbrev ab_X : Type := (Nat → Nat → Option Value) × (Nat → Nat → Option Nat) × (Nat → Nat → Option Value) × (Nat → Option (Nat × Nat × (Nat → Value))) × (Nat → Nat → Option Nat) × (Nat → Bool) × ab_Y
abbrev ab_xA (X : ab_X) : Nat → Nat → Option Nat := X.2.2.2.2.2.2.1
abbrev ab_xM (X : ab_X) : Nat → Nat → Option (List Nat) := X.2.2.2.2.2.2.2.1
abbrev ab_xF (X : ab_X) : Nat → Nat → Bool := X.2.2.2.2.2.2.2.2.1
abbrev ab_xC (X : ab_X) : Nat → Nat → Nat → Bool := X.2.2.2.2.2.2.2.2.2.1
abbrev ab_xS (X : ab_X) : Nat → Nat → Bool := X.2.2.2.2.2.2.2.2.2.2.1
abbrev ab_xO (X : ab_X) : Nat → Bool := X.2.2.2.2.2.2.2.2.2.2.2.1
abbrev ab_xD (X : ab_X) : Nat → Nat → Bool := X.2.2.2.2.2.2.2.2.2.2.2.2
/-- a program's tables: fields, new objects, constants (int, long) by class and place in the pool; classes of arrays of references; kinds of objects; calls (sort, method, arguments, the receiver's kind); methods -/
abbrev ab_G : Type := (Nat → Bool → ab_FT) × (Nat → ab_CT) × (Nat → Nat → Option Int32) × (Nat → Nat → Option Int64) × (Nat → Option FieldType) × List vw_C × (Nat → Nat → Option (Nat × Nat × Nat × Nat)) × (Nat → Option ab_MI) × ab_X
abbrev ab_gF (G : ab_G) := G.1
abbrev ab_gC (G : ab_G) := G.2.1
abbrev ab_gI (G : ab_G) := G.2.2.1
abbrev ab_gL (G : ab_G) := G.2.2.2.1
abbrev ab_gO (G : ab_G) := G.2.2.2.2.1
abbrev ab_gK (G : ab_G) := G.2.2.2.2.2.1
abbrev ab_gT (G : ab_G) := G.2.2.2.2.2.2.1
abbrev ab_gM (G : ab_G) := G.2.2.2.2.2.2.2.1
abbrev ab_gX (G : ab_G) : ab_X := G.2.2.2.2.2.2.2.2
/-- reads of what was there before -/
def ab_s8 (X : ab_X) (o : Nat) : Instr → Nat → List Value → Option (List Value)
  | .getstatic ix, 3, r => (X.1 o ix).map fun v => v :: r
  | .getfield ix, 3, .retAddr j :: r => (X.2.1 o ix).bind fun fid => (X.2.2.1 j fid).map fun v => v :: r
  | .arraylength, 1, .retAddr j :: r => (X.2.2.2.1 j).map fun q => .int (Int32.ofNat q.2.1) :: r
  | .iaload, 1, .int i :: .retAddr j :: r => (X.2.2.2.1 j).bind fun q => if q.1 = 0 ∧ ¬ (i < 0 ∨ q.2.1 ≤ i.toNatClampNeg) then some (q.2.2 i.toNatClampNeg :: r) else none
  | .laload, 1, .int i :: .retAddr j :: r => (X.2.2.2.1 j).bind fun q => if q.1 = 1 ∧ ¬ (i < 0 ∨ q.2.1 ≤ i.toNatClampNeg) then some (q.2.2 i.toNatClampNeg :: r) else none
  | .baload, 1, .int i :: .retAddr j :: r => (X.2.2.2.1 j).bind fun q => if q.1 = 2 ∧ ¬ (i < 0 ∨ q.2.1 ≤ i.toNatClampNeg) then some (q.2.2 i.toNatClampNeg :: r) else none
  | .ldc ix, 2, r => (X.2.2.2.2.1 o ix).map fun j => .retAddr j :: r
  | _, _, _ => none
/-- are two references the same? -/
def ab_aeq (X : ab_X) : Value → Value → Option Bool
  | .ref a, .ref b => some (decide (a = b))
  | .null, .null => some true
  | .ref _, .null => some false
  | .null, .ref _ => some false
  | .retAddr _, .null => some false
  | .null, .retAddr _ => some false
  | .ref _, .retAddr j => if ab_xO X j = true then some false else none
  | .retAddr j, .ref _ => if ab_xO X j = true then some false else none
  | .retAddr i, .retAddr j => if i = j then some true else if ab_xD X i j = true then some false else none
  | _, _ => none
/-- comparing references, casts, Strings by wide places, null and objects into arrays -/
def ab_s9 (X : ab_X) (oc : Nat → Option FieldType) (o : Nat) (h : List ab_E) : Instr → Nat → Nat → List Value → Option (Nat × List Value × List ab_E)
  | .if_acmp .eq off, 3, pc, y :: x :: r => (ab_aeq X x y).bind fun b => (ab_t pc off).bind fun t => if b = true then some (t, r, h) else some (pc + 3, r, h)
  | .if_acmp .ne off, 3, pc, y :: x :: r => (ab_aeq X x y).bind fun b => (ab_t pc off).bind fun t => if b = true then some (pc + 3, r, h) else some (t, r, h)
  | .pop2, 1, pc, v :: r => if v.category = 2 then some (pc + 1, r, h) else none
  | .ldc_w ix, 3, pc, r => if o = 44 then none else (X.2.2.2.2.1 o ix).map fun j => (pc + 3, .retAddr j :: r, h)
  | .checkcast ix, 3, pc, .ref a :: r => match h[a]? with
    | some (.inr (.inr (ci, _))) => if ab_xC X o ix ci = true then some (pc + 3, .ref a :: r, h) else none
    | _ => none
  | .checkcast _, 3, pc, .null :: r => some (pc + 3, .null :: r, h)
  | .checkcast ix, 3, pc, .retAddr j :: r => if ab_xS X o ix = true ∧ X.2.2.2.2.2.1 j = true then some (pc + 3, .retAddr j :: r, h) else none
  | .instanceof ix, 3, pc, .retAddr j :: r => if ab_xS X o ix = true ∧ X.2.2.2.2.2.1 j = true then some (pc + 3, .int 1 :: r, h) else none
  | .instanceof _, 3, pc, .null :: r => some (pc + 3, .int 0 :: r, h)
  | .aastore, 1, pc, .ref v :: .int i :: .ref a :: r => (ab_arR h a).bind fun q => match h[v]? with
    | some (.inr (.inr (ci, _))) => if i < 0 ∨ q.2.length ≤ i.toNatClampNeg then none else if ab_xF X ci q.1 = true then some (pc + 1, r, h.set a (.inr (.inl (q.1, .inr (.inr (q.2.set i.toNatClampNeg (some v))))))) else none
    | _ => none
  | .aastore, 1, pc, .null :: .int i :: .ref a :: r => (ab_arR h a).bind fun q => if i < 0 ∨ q.2.length ≤ i.toNatClampNeg then none else match oc (q.1 - 4) with
    | some (.object _) => some (pc + 1, r, h.set a (.inr (.inl (q.1, .inr (.inr (q.2.set i.toNatClampNeg none))))))
    | _ => none
  | _, _, _, _ => none
/-- how many cells an array of arrays has -/
def ab_mkz : List Nat → Nat
  | [] => 0
  | [_] => 1
  | n :: ns => 1 + n * ab_mkz ns
def ab_d0 : Nat → Nat → ab_V
  | 0, n => .inl (List.replicate n 0)
  | 1, n => .inr (.inl (List.replicate n 0))
  | 2, n => .inl (List.replicate n 0)
  | 3, n => .inl (List.replicate n 0)
  | _, n => .inr (.inr (List.replicate n none))
/-- the cells of an array of arrays, the first at place b -/
def ab_mk : List Nat → List Nat → Nat → List ab_E
  | [k], [n], _ => [.inr (.inl (k, ab_d0 k n))]
  | k :: k' :: ks, n :: ns, b => .inr (.inl (k, .inr (.inr ((List.range n).map (fun i => some (b + 1 + i * ab_mkz ns)))))) :: (List.range n).flatMap (fun i => ab_mk (k' :: ks) ns (b + 1 + i * ab_mkz ns))
  | _, _, _ => []
/-- so many counts off the stack, the outermost first -/
def ab_cnt : Nat → List Value → Option (List Int32 × List Value)
  | 0, st => some ([], st)
  | d + 1, .int n :: st => (ab_cnt d st).map fun q => (q.1 ++ [n], q.2)
  | _ + 1, _ => none
/-- new arrays of references -/
def ab_s10 (X : ab_X) (o : Nat) (h : List ab_E) : Instr → Nat → List Value → Option (List Value × List ab_E)
  | .anewarray ix, 3, .int n :: r => (ab_xA X o ix).bind fun k => if n < 0 ∨ 60000000 < n.toNatClampNeg then none else some (.ref h.length :: r, [.inr (.inl (k, .inr (.inr (List.replicate n.toNatClampNeg none))))])
  | .multianewarray ix d, 4, st => (ab_xM X o ix).bind fun ks => (ab_cnt d st).bind fun q => if ks.length = d ∧ 0 < d ∧ q.1.all (fun n => decide (¬ n < 0 ∧ n.toNatClampNeg ≤ 60000000)) = true then some (.ref h.length :: q.2, ab_mk ks (q.1.map (fun n => n.toNatClampNeg)) h.length) else none
  | _, _, _ => none
theorem ab_s9_z {X : ab_X} {oc : Nat → Option FieldType} {o pc pc' : Nat} {h h' : List ab_E} {i : Instr} {k : Nat} {st st' : List Value} (hs : ab_s9 X oc o h i k pc st = some (pc', st', h')) : h'.length = h.length ∧ ab_z h' = ab_z h := by
  unfold ab_s9 at hs
  split at hs
  · obtain ⟨b, -, h2⟩ := Option.bind_eq_some_iff.mp hs
    obtain ⟨t, -, h3⟩ := Option.bind_eq_some_iff.mp h2
    split at h3
    · cases h3
      exact ⟨rfl, rfl⟩
    · cases h3
      exact ⟨rfl, rfl⟩
  · obtain ⟨b, -, h2⟩ := Option.bind_eq_some_iff.mp hs
    obtain ⟨t, -, h3⟩ := Option.bind_eq_some_iff.mp h2
    split at h3
    · cases h3
      exact ⟨rfl, rfl⟩
    · cases h3
      exact ⟨rfl, rfl⟩
  · split at hs
    · cases hs
      exact ⟨rfl, rfl⟩
    · cases hs
  · split at hs
    · cases hs
    · obtain ⟨j, -, h2⟩ := Option.map_eq_some_iff.mp hs
      cases h2
      exact ⟨rfl, rfl⟩
  · split at hs
    · split at hs
      · cases hs
        exact ⟨rfl, rfl⟩
      · cases hs
    · cases hs
  · cases hs
    exact ⟨rfl, rfl⟩
  · split at hs
    · cases hs
      exact ⟨rfl, rfl⟩
    · cases hs
  · split at hs
    · cases hs
      exact ⟨rfl, rfl⟩
    · cases hs
  · cases hs
    exact ⟨rfl, rfl⟩
  · obtain ⟨⟨u, f⟩, h1, h2⟩ := Option.bind_eq_some_iff.mp hs
    split at h2
    · split at h2
      · cases h2
      · split at h2
        · cases h2
          exact ⟨List.length_set, ab_z_set (ab_arR_eq h1).1 List.length_set⟩
        · cases h2
    · cases h2
  · obtain ⟨⟨u, f⟩, h1, h2⟩ := Option.bind_eq_some_iff.mp hs
    split at h2
    · cases h2
    · split at h2
      · cases h2
        exact ⟨List.length_set, ab_z_set (ab_arR_eq h1).1 List.length_set⟩
      · cases h2
  · cases hs
theorem ab_z_app (h x : List ab_E) : ab_z (h ++ x) = ab_z h + ab_z x := by
  unfold ab_z
  rw [List.map_append, List.sum_append]
abbrev ab_mo (M : ab_MI) : Nat := M.1
abbrev ab_my (M : ab_MI) : MethodName := M.2.1
abbrev ab_mc (M : ab_MI) : ByteArray := M.2.2.1
abbrev ab_mL (M : ab_MI) : Nat := M.2.2.2.1
abbrev ab_mr (M : ab_MI) : Option FieldType := M.2.2.2.2.1
abbrev ab_mi (M : ab_MI) : Bool := M.2.2.2.2.2
def ab_step (G : ab_G) (M : ab_MI) (i : Instr) (k pc : Nat) (lv : ab_L) (st : List Value) (h : List ab_E) : Option (Nat × ab_L × List Value × List ab_E) :=
  match ab_s1 i k st with
  | some st' => some (pc + k, lv, st', h)
  | none => match ab_s2 (ab_mL M) i k lv st with
  | some (lv', st') => some (pc + k, lv', st', h)
  | none => match ab_s3 i k pc st with
  | some (t, st') => some (t, lv, st', h)
  | none => match ab_s4 (ab_gF G (ab_mo M) (ab_mi M)) (ab_gO G) h i k st with
  | some st' => some (pc + k, lv, st', h)
  | none => match ab_s5 (ab_gF G (ab_mo M) (ab_mi M)) (ab_gO G) (ab_gK G) h i k st with
  | some (st', h') => some (pc + k, lv, st', h')
  | none => match ab_s6 (ab_gC G (ab_mo M)) h i k st with
  | some (st', x) => some (pc + k, lv, st', h ++ [x])
  | none => match ab_s7 (ab_gI G (ab_mo M)) (ab_gL G (ab_mo M)) i k st with
  | some st' => some (pc + k, lv, st', h)
  | none => match ab_s8 (ab_gX G) (ab_mo M) i k st with
  | some st' => some (pc + k, lv, st', h)
  | none => match ab_s9 (ab_gX G) (ab_gO G) (ab_mo M) h i k pc st with
  | some (t, st', h') => some (t, lv, st', h')
  | none => match ab_s10 (ab_gX G) (ab_mo M) h i k st with
  | some (st', xs) => some (pc + k, lv, st', h ++ xs)
  | none => none
def ab_ret : Option FieldType → Instr → Nat → List Value → Option (Option Value)
  | some .int, .ireturn, 1, [.int v] => some (some (.int v))
  | some .boolean, .ireturn, 1, [.int v] => if narrow .boolean (.int v) = .int v then some (some (.int v)) else none
  | some .byte, .ireturn, 1, [.int v] => if narrow .byte (.int v) = .int v then some (some (.int v)) else none
  | some .char, .ireturn, 1, [.int v] => if narrow .char (.int v) = .int v then some (some (.int v)) else none
  | some .long, .lreturn, 1, [.long v] => some (some (.long v))
  | some (.object _), .areturn, 1, [.ref a] => some (some (.ref a))
  | some (.object _), .areturn, 1, [.null] => some (some .null)
  | some (.object _), .areturn, 1, [.retAddr a] => some (some (.retAddr a))
  | some (.array _), .areturn, 1, [.ref a] => some (some (.ref a))
  | some (.array _), .areturn, 1, [.null] => some (some .null)
  | some (.array _), .areturn, 1, [.retAddr a] => some (some (.retAddr a))
  | none, .return_, 1, [] => some none
  | _, _, _, _ => none
def ab_cat (r : List Value) : Nat := (r.map fun v => v.category).sum
/-- a call: the callee, its arguments (the receiver first), what is left on the stack -/
def ab_call (G : ab_G) (o : Nat) (h : List ab_E) : Instr → Nat → List Value → Option (Nat × List Value × List Value)
  | .invokestatic ix, 3, st => match ab_gT G o ix with
    | some (1, y, na, _) => if na ≤ st.length ∧ ab_cat (st.drop na) ≤ 8 then some (y, (st.take na).reverse, st.drop na) else none
    | _ => none
  | .invokevirtual ix, 3, st => match ab_gT G o ix with
    | some (0, y, na, ci) => match st.drop na with
      | .ref a :: r => match h[a]? with
        | some (.inr (.inr (cj, _))) => if cj = ci ∧ na ≤ st.length ∧ ab_cat r ≤ 8 then some (y, .ref a :: (st.take na).reverse, r) else none
        | _ => none
      | _ => none
    | some (6, y, na, _) => match st.drop na with
      | .retAddr j :: r => if (ab_gX G).2.2.2.2.2.1 j = true ∧ na ≤ st.length ∧ ab_cat r ≤ 8 then some (y, .retAddr j :: (st.take na).reverse, r) else none
      | _ => none
    | _ => none
  | .invokespecial ix, 3, st => match ab_gT G o ix with
    | some (2, y, na, _) => match st.drop na with
      | .ref a :: r => if na ≤ st.length ∧ ab_cat r ≤ 8 then some (y, .ref a :: (st.take na).reverse, r) else none
      | _ => none
    | some (3, y, na, _) => match st.drop na with
      | .ref a :: r => if na ≤ st.length ∧ ab_cat r ≤ 8 then some (y, .ref a :: (st.take na).reverse, r) else none
      | _ => none
    | _ => none
  | _, _, _ => none
/-- Object() -/
def ab_obi (G : ab_G) (o : Nat) : Instr → Nat → List Value → Option (List Value)
  | .invokespecial ix, 3, .ref _ :: r => match ab_gT G o ix with
    | some (4, _, _, _) => if ab_cat r ≤ 8 then some r else none
    | _ => none
  | _, _, _ => none
/-- System.arraycopy -/
def ab_cp (h : List ab_E) : List Value → Option (List Value × List ab_E)
  | .int n :: .int dp :: .ref a :: .int sp :: .ref a0 :: r => if n < 0 ∨ dp < 0 ∨ sp < 0 ∨ 8 < ab_cat r then none else match ab_arI h a0 0 with
    | some q0 => (ab_arI h a 0).bind fun q => if sp.toNatClampNeg + n.toNatClampNeg ≤ q0.length ∧ dp.toNatClampNeg + n.toNatClampNeg ≤ q.length then some (r, h.set a (.inr (.inl (0, .inl (ab_lay q0 q 0 sp.toNatClampNeg dp.toNatClampNeg n.toNatClampNeg))))) else none
    | none => match ab_arL h a0 with
    | some q0 => (ab_arL h a).bind fun q => if sp.toNatClampNeg + n.toNatClampNeg ≤ q0.length ∧ dp.toNatClampNeg + n.toNatClampNeg ≤ q.length then some (r, h.set a (.inr (.inl (1, .inr (.inl (ab_lay q0 q 0 sp.toNatClampNeg dp.toNatClampNeg n.toNatClampNeg)))))) else none
    | none => (ab_arI h a0 2).bind fun q0 => (ab_arI h a 2).bind fun q => if sp.toNatClampNeg + n.toNatClampNeg ≤ q0.length ∧ dp.toNatClampNeg + n.toNatClampNeg ≤ q.length ∧ (∀ i, i < n.toNatClampNeg → fits .byte (.int (q0.getD (sp.toNatClampNeg + i) 0)) = true) then some (r, h.set a (.inr (.inl (2, .inl (ab_lay q0 q 0 sp.toNatClampNeg dp.toNatClampNeg n.toNatClampNeg))))) else none
  | _ => none
/-- two numbers on the stack -/
def ab_mI : List Value → Option (Int32 × Int32 × List Value)
  | .int y :: .int x :: r => if ab_cat r ≤ 8 then some (x, y, r) else none
  | _ => none
def ab_mJ : List Value → Option (Int64 × Int64 × List Value)
  | .long y :: .long x :: r => if ab_cat r ≤ 8 then some (x, y, r) else none
  | _ => none
theorem ab_mI_eq {st r : List Value} {x y : Int32} (h : ab_mI st = some (x, y, r)) : st = .int y :: .int x :: r ∧ ab_cat r ≤ 8 := by
  unfold ab_mI at h
  split at h
  · split at h
    · rename_i hc
      cases h
      exact ⟨rfl, hc⟩
    · cases h
  · cases h
theorem ab_mJ_eq {st r : List Value} {x y : Int64} (h : ab_mJ st = some (x, y, r)) : st = .long y :: .long x :: r ∧ ab_cat r ≤ 8 := by
  unfold ab_mJ at h
  split at h
  · split at h
    · rename_i hc
      cases h
      exact ⟨rfl, hc⟩
    · cases h
  · cases h
/-- what may lie in an array of references of that kind -/
def ab_okE (X : ab_X) (h : List ab_E) (u : Nat) : Option Nat → Bool
  | none => true
  | some v => match h[v]? with
    | some (.inr (.inr (ci, _))) => ab_xF X ci u
    | _ => false
def ab_isO : Option FieldType → Bool
  | some (.object _) => true
  | _ => false
/-- System.arraycopy of references, from Object[] to Object[] -/
def ab_cq (X : ab_X) (oc : Nat → Option FieldType) (h : List ab_E) : List Value → Option (List Value × List ab_E)
  | .int n :: .int dp :: .ref a :: .int sp :: .ref a0 :: r => if n < 0 ∨ dp < 0 ∨ sp < 0 ∨ 8 < ab_cat r then none else (ab_arR h a0).bind fun q0 => (ab_arR h a).bind fun q => if sp.toNatClampNeg + n.toNatClampNeg ≤ q0.2.length ∧ dp.toNatClampNeg + n.toNatClampNeg ≤ q.2.length ∧ q0.1 = 14 ∧ q.1 = 14 ∧ q0.2.all (ab_okE X h 14) = true ∧ ab_isO (oc 10) = true then some (r, h.set a (.inr (.inl (14, .inr (.inr (ab_lay q0.2 q.2 none sp.toNatClampNeg dp.toNatClampNeg n.toNatClampNeg)))))) else none
  | _ => none
/-- arraycopy, Math.max, Math.min, getClass() of an Object[] -/
def ab_cpy (G : ab_G) (o : Nat) (h : List ab_E) : Instr → Nat → List Value → Option (List Value × List ab_E)
  | .invokestatic ix, 3, st => match ab_gT G o ix with
    | some (5, _, _, _) => match ab_cp h st with
      | some q => some q
      | none => ab_cq (ab_gX G) (ab_gO G) h st
    | some (7, _, _, _) => (ab_mI st).bind fun q => some (.int (if q.1 < q.2.1 then q.2.1 else q.1) :: q.2.2, h)
    | some (8, _, _, _) => (ab_mI st).bind fun q => some (.int (if q.2.1 < q.1 then q.2.1 else q.1) :: q.2.2, h)
    | some (9, _, _, _) => (ab_mJ st).bind fun q => some (.long (if q.2.1 < q.1 then q.2.1 else q.1) :: q.2.2, h)
    | _ => none
  | .invokevirtual ix, 3, .ref a :: r => match ab_gT G o ix with
    | some (10, j, _, _) => match h[a]? with
      | some (.inr (.inl (u, .inr (.inr _)))) => if o = 44 ∧ u = 14 ∧ ab_cat r ≤ 8 then some (.retAddr j :: r, h) else none
      | _ => none
    | _ => none
  | _, _, _ => none
theorem ab_cp_z {h h' : List ab_E} {st st' : List Value} (hs : ab_cp h st = some (st', h')) : h'.length = h.length ∧ ab_z h' = ab_z h := by
  unfold ab_cp at hs
  split at hs
  · split at hs
    · cases hs
    · split at hs
      · obtain ⟨f, h1, h2⟩ := Option.bind_eq_some_iff.mp hs
        split at h2
        · cases h2
          exact ⟨List.length_set, ab_z_set (ab_arI_eq h1) (ab_lay_len _ _ _ _ _ _)⟩
        · cases h2
      · split at hs
        · obtain ⟨f, h1, h2⟩ := Option.bind_eq_some_iff.mp hs
          split at h2
          · cases h2
            exact ⟨List.length_set, ab_z_set (ab_arL_eq h1) (ab_lay_len _ _ _ _ _ _)⟩
          · cases h2
        · obtain ⟨f0, h0, h3⟩ := Option.bind_eq_some_iff.mp hs
          obtain ⟨f, h1, h2⟩ := Option.bind_eq_some_iff.mp h3
          split at h2
          · cases h2
            exact ⟨List.length_set, ab_z_set (ab_arI_eq h1) (ab_lay_len _ _ _ _ _ _)⟩
          · cases h2
  · cases hs
theorem ab_cq_z {X : ab_X} {oc : Nat → Option FieldType} {h h' : List ab_E} {st st' : List Value} (hs : ab_cq X oc h st = some (st', h')) : h'.length = h.length ∧ ab_z h' = ab_z h := by
  unfold ab_cq at hs
  split at hs
  · split at hs
    · cases hs
    · obtain ⟨⟨u0, f0⟩, h0, h3⟩ := Option.bind_eq_some_iff.mp hs
      obtain ⟨⟨u, f⟩, h1, h2⟩ := Option.bind_eq_some_iff.mp h3
      split at h2
      · rename_i hq
        obtain ⟨-, -, -, hu, -⟩ := hq
        dsimp only at hu
        subst hu
        cases h2
        exact ⟨List.length_set, ab_z_set (ab_arR_eq h1).1 (ab_lay_len _ _ _ _ _ _)⟩
      · cases h2
  · cases hs
theorem ab_cpy_z {G : ab_G} {o : Nat} {h h' : List ab_E} {i : Instr} {k : Nat} {st st' : List Value} (hs : ab_cpy G o h i k st = some (st', h')) : h'.length = h.length ∧ ab_z h' = ab_z h := by
  unfold ab_cpy at hs
  split at hs
  · split at hs
    · split at hs
      · rename_i h1
        cases hs
        exact ab_cp_z h1
      · exact ab_cq_z hs
    · obtain ⟨q, -, h2⟩ := Option.bind_eq_some_iff.mp hs
      cases h2
      exact ⟨rfl, rfl⟩
    · obtain ⟨q, -, h2⟩ := Option.bind_eq_some_iff.mp hs
      cases h2
      exact ⟨rfl, rfl⟩
    · obtain ⟨q, -, h2⟩ := Option.bind_eq_some_iff.mp hs
      cases h2
      exact ⟨rfl, rfl⟩
    · cases hs
  · split at hs
    · split at hs
      · split at hs
        · cases hs
          exact ⟨rfl, rfl⟩
        · cases hs
      · cases hs
    · cases hs
  · cases hs
def ab_run (G : ab_G) : Nat → Nat → ab_MI → Nat → ab_L → List Value → List ab_E → Option (Option Value × List ab_E)
  | 0, _, _, _, _, _, _ => none
  | n + 1, d, M, pc, lv, st, h => match decode (ab_mc M) pc with
    | .error _ => none
    | .ok (i, k) => match ab_step G M i k pc lv st h with
      | some (pc', lv', st', h') => ab_run G n d M pc' lv' st' h'
      | none => match ab_ret (ab_mr M) i k st with
        | some r => some (r, h)
        | none => match d with
          | 0 => none
          | d' + 1 => match ab_obi G (ab_mo M) i k st with
            | some r => ab_run G n (d' + 1) M (pc + 3) lv r h
            | none => match ab_cpy G (ab_mo M) h i k st with
            | some (r, h') => ab_run G n (d' + 1) M (pc + 3) lv r h'
            | none => match ab_call G (ab_mo M) h i k st with
              | none => none
              | some (y, As, r) => match ab_gM G y with
                | none => none
                | some M' => if (lg_sl As).length ≤ ab_mL M' then match ab_run G n d' M' 0 (lv_args 0 As) [] h with
                  | none => none
                  | some (v, h') => ab_run G n (d' + 1) M (pc + 3) lv (v.toList ++ r) h'
                  else none
theorem ab_step_z {G : ab_G} {M : ab_MI} {i : Instr} {k pc pc' : Nat} {lv lv' : ab_L} {st st' : List Value} {h h' : List ab_E} (hs : ab_step G M i k pc lv st h = some (pc', lv', st', h')) : h.length ≤ h'.length ∧ ab_z h ≤ ab_z h' := by
  unfold ab_step at hs
  repeat' split at hs
  all_goals first | (cases hs; done) | skip
  all_goals cases hs
  all_goals first | exact ⟨Nat.le_refl _, Nat.le_refl _⟩ | skip
  · rename_i h5
    have := ab_s5_z h5
    omega
  · rw [ab_z_push, List.length_append]
    exact ⟨Nat.le_add_right _ _, Nat.le_add_right _ _⟩
  · rename_i h9
    have := ab_s9_z h9
    omega
  · rw [ab_z_app, List.length_append]
    exact ⟨Nat.le_add_right _ _, Nat.le_add_right _ _⟩
theorem ab_run_z {G : ab_G} : ∀ (n d : Nat) (M : ab_MI) (pc : Nat) (lv : ab_L) (st : List Value) (h h' : List ab_E) (r : Option Value), ab_run G n d M pc lv st h = some (r, h') → h.length ≤ h'.length ∧ ab_z h ≤ ab_z h'
  | 0, d, M, pc, lv, st, h, h', r, hs => by cases hs
  | n + 1, d, M, pc, lv, st, h, h', r, hs => by
    unfold ab_run at hs
    split at hs
    · cases hs
    · split at hs
      · rename_i h1
        have a1 := ab_step_z h1
        have a2 := ab_run_z n _ _ _ _ _ _ _ _ hs
        omega
      · split at hs
        · cases hs
          exact ⟨Nat.le_refl _, Nat.le_refl _⟩
        · split at hs
          · cases hs
          · split at hs
            · exact ab_run_z n _ _ _ _ _ _ _ _ hs
            · split at hs
              · rename_i h1
                have a1 := ab_cpy_z h1
                have a2 := ab_run_z n _ _ _ _ _ _ _ _ hs
                omega
              · split at hs
                · cases hs
                · split at hs
                  · cases hs
                  · split at hs
                    · split at hs
                      · cases hs
                      · rename_i h1
                        have a1 := ab_run_z n _ _ _ _ _ _ _ _ h1
                        have a2 := ab_run_z n _ _ _ _ _ _ _ _ hs
                        omega
                    · cases hs

/-! the heap of an abstract run: a list of cells; the k-th lies at B.1 + k -/
/-- an array's contents: ints (bytes, booleans), longs, references -/
abbrev ab_V : Type := List Int32 ⊕ List Int64 ⊕ List (Option Nat)
/-- a cell: junk of so many slots (of which nothing is said), an array (its kind and contents), an object (its kind and fields) -/
abbrev ab_E : Type := Nat ⊕ (Nat × ab_V) ⊕ (Nat × List Value)
def ab_len : ab_V → Nat
  | .inl l => l.length
  | .inr (.inl l) => l.length
  | .inr (.inr l) => l.length
def ab_sA (b : Nat) : ab_V → vp_A
  | .inl l => (l.length, .inl (fun i => l.getD i 0))
  | .inr (.inl l) => (l.length, .inr (.inl (fun i => l.getD i 0)))
  | .inr (.inr l) => (l.length, .inr (.inr (.inr (.inr (fun i => (l.getD i none).map (fun k => b + k))))))
theorem ab_set_upd (l : List Int32) {i : Nat} (x : Int32) (h : i < l.length) : (fun j => (l.set i x).getD j 0) = upd (fun j => l.getD j 0) i x := by
  funext j
  unfold upd
  by_cases e : j = i
  · subst e
    simp [List.getD, h]
  · rw [if_neg e]
    simp [List.getD, List.getElem?_set_ne (Ne.symm e)]
theorem ab_set_updL (l : List Int64) {i : Nat} (x : Int64) (h : i < l.length) : (fun j => (l.set i x).getD j 0) = vp_updL (fun j => l.getD j 0) i x := by
  funext j
  unfold vp_updL
  by_cases e : j = i
  · subst e
    simp [List.getD, h]
  · rw [if_neg e]
    simp [List.getD, List.getElem?_set_ne (Ne.symm e)]
theorem ab_set_up (b : Nat) (l : List (Option Nat)) {i : Nat} (x : Nat) (h : i < l.length) : (fun j => ((l.set i (some x)).getD j none).map (fun k => b + k)) = va_up (fun j => (l.getD j none).map (fun k => b + k)) i (some (b + x)) := by
  funext j
  unfold va_up
  by_cases e : j = i
  · subst e
    simp [List.getD, h]
  · rw [if_neg e]
    simp [List.getD, List.getElem?_set_ne (Ne.symm e)]
theorem ab_rep {α : Type} (n : Nat) (d : α) : (fun i => (List.replicate n d).getD i d) = fun _ => d := by
  funext i
  simp only [List.getD, List.getElem?_replicate]
  split <;> rfl
/-- a part of one list laid into another -/
def ab_lay {α : Type} (l0 l : List α) (d : α) (sp dp n : Nat) : List α := l.mapIdx (fun k x => if dp ≤ k ∧ k < dp + n then l0.getD (sp + (k - dp)) d else x)
theorem ab_lay_len {α : Type} (l0 l : List α) (d : α) (sp dp n : Nat) : (ab_lay l0 l d sp dp n).length = l.length := by
  unfold ab_lay
  rw [List.length_mapIdx]
theorem ab_lay_cpy {α : Type} (l0 l : List α) (d : α) {sp dp n : Nat} (h : dp + n ≤ l.length) : (fun j => (ab_lay l0 l d sp dp n).getD j d) = va_cpy (fun j => l0.getD j d) (fun j => l.getD j d) sp dp n := by
  funext j
  unfold va_cpy ab_lay
  simp only [List.getD, List.getElem?_mapIdx]
  by_cases hj : j < l.length
  · rw [List.getElem?_eq_getElem hj]
    simp only [Option.map_some, Option.getD_some]
  · rw [List.getElem?_eq_none (Nat.not_lt.mp hj)]
    simp only [Option.map_none, Option.getD_none]
    rw [if_neg (by omega)]
def ab_cE (B : Nat × (Nat → Nat)) (cA : Nat → ClassId) : ab_E → Option va_E
  | .inl _ => none
  | .inr (.inl (t, x)) => some (.inl (cA t, ab_sA B.1 x))
  | .inr (.inr (ci, fs)) => some (.inr (ci, fs.map (ab_rl B)))
def ab_Wf (B : Nat × (Nat → Nat)) (cA : Nat → ClassId) : Nat → List ab_E → va_W
  | _, [] => []
  | k, e :: h => match ab_cE B cA e with
    | some x => (B.1 + k, x) :: ab_Wf B cA (k + 1) h
    | none => ab_Wf B cA (k + 1) h
def ab_W (B : Nat × (Nat → Nat)) (cA : Nat → ClassId) (h : List ab_E) : va_W := ab_Wf B cA 0 h
theorem ab_Wf_mem {B : Nat × (Nat → Nat)} {cA : Nat → ClassId} {q : Nat × va_E} : ∀ {h : List ab_E} {n : Nat}, q ∈ ab_Wf B cA n h ↔ ∃ (k : Nat) (e : ab_E) (x : va_E), h[k]? = some e ∧ ab_cE B cA e = some x ∧ q = (B.1 + (n + k), x)
  | [], n => by
    constructor
    · intro h
      cases h
    · rintro ⟨k, e, x, h, -⟩
      cases h
  | e :: h, n => by
    have ih := ab_Wf_mem (B := B) (cA := cA) (q := q) (h := h) (n := n + 1)
    constructor
    · intro hq
      unfold ab_Wf at hq
      cases hx : ab_cE B cA e with
      | none =>
        rw [hx] at hq
        obtain ⟨k, e', x, h1, h2, h3⟩ := ih.mp hq
        exact ⟨k + 1, e', x, h1, h2, by rw [h3]; congr 1; omega⟩
      | some y =>
        rw [hx] at hq
        rcases List.mem_cons.mp hq with rfl | hq
        · exact ⟨0, e, y, rfl, hx, rfl⟩
        · obtain ⟨k, e', x, h1, h2, h3⟩ := ih.mp hq
          exact ⟨k + 1, e', x, h1, h2, by rw [h3]; congr 1; omega⟩
    · rintro ⟨k, e', x, h1, h2, h3⟩
      unfold ab_Wf
      cases k with
      | zero =>
        cases h1
        rw [h2, h3]
        exact List.mem_cons_self
      | succ k =>
        have hm : q ∈ ab_Wf B cA (n + 1) h := ih.mpr ⟨k, e', x, h1, h2, by rw [h3]; congr 1; omega⟩
        cases hx : ab_cE B cA e with
        | none => exact hm
        | some y => exact List.mem_cons_of_mem _ hm
theorem ab_W_mem {B : Nat × (Nat → Nat)} {cA : Nat → ClassId} {q : Nat × va_E} {h : List ab_E} : q ∈ ab_W B cA h ↔ ∃ (k : Nat) (e : ab_E) (x : va_E), h[k]? = some e ∧ ab_cE B cA e = some x ∧ q = (B.1 + k, x) := by
  unfold ab_W
  rw [ab_Wf_mem]
  constructor
  · rintro ⟨k, e, x, h1, h2, h3⟩
    exact ⟨k, e, x, h1, h2, by rw [h3, Nat.zero_add]⟩
  · rintro ⟨k, e, x, h1, h2, h3⟩
    exact ⟨k, e, x, h1, h2, by rw [h3, Nat.zero_add]⟩
theorem ab_W_at {B : Nat × (Nat → Nat)} {cA : Nat → ClassId} {h : List ab_E} {k : Nat} {e : ab_E} {x : va_E} (hk : h[k]? = some e) (hx : ab_cE B cA e = some x) : ∃ j : Nat, (ab_W B cA h)[j]? = some (B.1 + k, x) :=
  List.getElem?_of_mem (ab_W_mem.mpr ⟨k, e, x, hk, hx, rfl⟩)
theorem ab_Wf_lt {B : Nat × (Nat → Nat)} {cA : Nat → ClassId} : ∀ (h : List ab_E) (n : Nat), (ab_Wf B cA n h).Pairwise (fun p q => p.1 < q.1)
  | [], _ => List.Pairwise.nil
  | e :: h, n => by
    unfold ab_Wf
    cases hx : ab_cE B cA e with
    | none => exact ab_Wf_lt h (n + 1)
    | some y =>
      refine List.Pairwise.cons (fun q hq => ?_) (ab_Wf_lt h (n + 1))
      obtain ⟨k, e', x, -, -, h3⟩ := ab_Wf_mem.mp hq
      rw [h3]
      show B.1 + n < B.1 + (n + 1 + k)
      omega
theorem ab_D (B : Nat × (Nat → Nat)) (cA : Nat → ClassId) (h : List ab_E) : va_D (fun q : Nat => B.1 ≤ q) (ab_W B cA h) := by
  refine ⟨fun i j p q hi hj e => ?_, fun k q hk => ?_⟩
  · have hlt := List.pairwise_iff_getElem.mp (ab_Wf_lt (B := B) (cA := cA) h 0)
    obtain ⟨hi1, hi2⟩ := List.getElem?_eq_some_iff.mp hi
    obtain ⟨hj1, hj2⟩ := List.getElem?_eq_some_iff.mp hj
    rcases Nat.lt_trichotomy i j with g | g | g
    · have := hlt i j hi1 hj1 g
      have e1 : ((ab_Wf B cA 0 h)[i]'hi1).1 = p.1 := congrArg Prod.fst hi2
      have e2 : ((ab_Wf B cA 0 h)[j]'hj1).1 = q.1 := congrArg Prod.fst hj2
      omega
    · exact g
    · have := hlt j i hj1 hi1 g
      have e1 : ((ab_Wf B cA 0 h)[i]'hi1).1 = p.1 := congrArg Prod.fst hi2
      have e2 : ((ab_Wf B cA 0 h)[j]'hj1).1 = q.1 := congrArg Prod.fst hj2
      omega
  · obtain ⟨k', e, x, -, -, rfl⟩ := ab_W_mem.mp (List.mem_of_getElem? hk)
    exact Nat.le_add_right B.1 k'
theorem ab_P_set {B : Nat × (Nat → Nat)} {cA : Nat → ClassId} {D : va_G} {cl : List vw_C} {h : List ab_E} {H1 : Heap} {k j : Nat} {x0 x' : va_E} {e' : ab_E} (hj : (ab_W B cA h)[j]? = some (B.1 + k, x0)) (hx : ab_cE B cA e' = some x') (hP : va_P D cl ((ab_W B cA h).set j (B.1 + k, x')) H1) : va_P D cl (ab_W B cA (h.set k e')) H1 := by
  intro i q hq
  obtain ⟨k2, e2, x2, h1, h2, rfl⟩ := ab_W_mem.mp (List.mem_of_getElem? hq)
  have hjl : j < (ab_W B cA h).length := (List.getElem?_eq_some_iff.mp hj).1
  by_cases hk : k = k2
  · subst hk
    have hl : k < (h.set k e').length := (List.getElem?_eq_some_iff.mp h1).1
    rw [List.length_set] at hl
    rw [List.getElem?_set_self hl] at h1
    cases h1
    rw [hx] at h2
    cases h2
    exact hP j _ (by rw [List.getElem?_set_self hjl])
  · rw [List.getElem?_set_ne hk] at h1
    obtain ⟨j2, h3⟩ := ab_W_at h1 h2
    refine hP j2 _ ?_
    rw [List.getElem?_set_ne (fun z => ?_)]
    · exact h3
    · subst z
      rw [hj] at h3
      have := congrArg Prod.fst (Option.some.inj h3)
      exact hk (Nat.add_left_cancel this)
theorem ab_P_push {B : Nat × (Nat → Nat)} {cA : Nat → ClassId} {D : va_G} {cl : List vw_C} {h : List ab_E} {H1 : Heap} {e : ab_E} (hP : va_P D cl (ab_W B cA h) H1) (hx : ∀ x, ab_cE B cA e = some x → va_at D cl (B.1 + h.length, x) H1) : va_P D cl (ab_W B cA (h ++ [e])) H1 := by
  intro i q hq
  obtain ⟨k2, e2, x2, h1, h2, rfl⟩ := ab_W_mem.mp (List.mem_of_getElem? hq)
  by_cases hk : k2 < h.length
  · rw [List.getElem?_append_left hk] at h1
    obtain ⟨j2, h3⟩ := ab_W_at h1 h2
    exact hP j2 _ h3
  · have hl := (List.getElem?_eq_some_iff.mp h1).1
    rw [List.length_append, List.length_singleton] at hl
    have hk2 : k2 = h.length := by omega
    subst hk2
    rw [List.getElem?_append_right (Nat.le_refl _), Nat.sub_self] at h1
    cases h1
    exact hx _ h2
/-- slots of a cell, of a heap -/
def ab_z1 : ab_E → Nat
  | .inl n => n
  | .inr (.inl (_, x)) => ab_len x
  | .inr (.inr (_, fs)) => fs.length
def ab_z (h : List ab_E) : Nat := (h.map ab_z1).sum
def ab_obj (h : List ab_E) (a ci : Nat) : Option (List Value) := match h[a]? with
  | some (.inr (.inr (cj, fs))) => if cj = ci then some fs else none
  | _ => none
def ab_arI (h : List ab_E) (a t : Nat) : Option (List Int32) := match h[a]? with
  | some (.inr (.inl (u, .inl l))) => if u = t then some l else none
  | _ => none
def ab_arL (h : List ab_E) (a : Nat) : Option (List Int64) := match h[a]? with
  | some (.inr (.inl (u, .inr (.inl l)))) => if u = 1 then some l else none
  | _ => none
def ab_arR (h : List ab_E) (a : Nat) : Option (Nat × List (Option Nat)) := match h[a]? with
  | some (.inr (.inl (u, .inr (.inr l)))) => if 4 ≤ u then some (u, l) else none
  | _ => none
theorem ab_obj_eq {h : List ab_E} {a ci : Nat} {fs : List Value} (q : ab_obj h a ci = some fs) : h[a]? = some (.inr (.inr (ci, fs))) := by
  unfold ab_obj at q
  split at q
  · rename_i e
    split at q
    · rename_i ec
      cases q
      rw [e, ec]
    · cases q
  · cases q
theorem ab_arI_eq {h : List ab_E} {a t : Nat} {l : List Int32} (q : ab_arI h a t = some l) : h[a]? = some (.inr (.inl (t, .inl l))) := by
  unfold ab_arI at q
  split at q
  · rename_i e
    split at q
    · rename_i ec
      cases q
      rw [e, ec]
    · cases q
  · cases q
theorem ab_arL_eq {h : List ab_E} {a : Nat} {l : List Int64} (q : ab_arL h a = some l) : h[a]? = some (.inr (.inl (1, .inr (.inl l)))) := by
  unfold ab_arL at q
  split at q
  · rename_i e
    split at q
    · rename_i ec
      cases q
      rw [e, ec]
    · cases q
  · cases q
theorem ab_arR_eq {h : List ab_E} {a u : Nat} {l : List (Option Nat)} (q : ab_arR h a = some (u, l)) : h[a]? = some (.inr (.inl (u, .inr (.inr l)))) ∧ 4 ≤ u := by
  unfold ab_arR at q
  split at q
  · rename_i e
    split at q
    · rename_i ec
      cases q
      exact ⟨e, ec⟩
    · cases q
  · cases q
def ab_rf : Option Nat → Value
  | some k => .ref k
  | none => .null
theorem ab_rf_rl (B : Nat × (Nat → Nat)) (r : Option Nat) : ab_rl B (ab_rf r) = va_rf (r.map (fun k => B.1 + k)) := by
  cases r <;> rfl
/-- the array classes by their kinds: 0 int, 1 long, 2 byte, 3 boolean, 4 + j: references of the type oc j -/
def ab_Ty (cA : Nat → ClassId) (oc : Nat → Option FieldType) (tys : List (ClassId × FieldType)) : Prop :=
  tys[0]? = some (cA 0, .int) ∧ tys[1]? = some (cA 1, .long) ∧ tys[2]? = some (cA 2, .byte) ∧ tys[3]? = some (cA 3, .boolean) ∧ ∀ (j : Nat) (ty : FieldType), oc j = some ty → tys[j + 4]? = some (cA (j + 4), ty)
/-- an inherited field under its two names -/
theorem ab_same {s : State} {args : Array Value} {ref owner name desc : String} (h : (Cond.sameField ref owner name desc).before args s = true) : ∀ x, s.fieldFound? owner name desc = some x → s.fieldFound? ref name desc = some x := by
  intro x hx
  cases e : s.fieldFound? ref name desc with
  | none => simp [Cond.before, Cond.holds, Cond.value, e] at h
  | some q =>
    obtain ⟨c, k, i, f⟩ := q
    have := Cond.sameField_spec e h
    exact this.symm.trans hx
/-- a class's fields by the places of its constant pool: object kind, place, type, whether it may be written here -/
abbrev ab_FT : Type := Nat → Option (Nat × Nat × FieldType × Bool)
def ab_Fd (own : String) (isI : Bool) (Ts : List Cond) (cl : List vw_C) (fT : ab_FT) : Prop :=
  ∀ (ix ci k : Nat) (ty : FieldType) (ok : Bool), fT ix = some (ci, k, ty, ok) → ∃ (C : String) (T : u_T) (N : Nat) (ty0 : Nat → FieldType), cl[ci]? = some (C, T, N) ∧ k < N ∧ (∀ w ∈ u_ws C T N, w ∈ Ts) ∧ (Cond.fieldLink own ix (T k).1 (T k).2.1 (T k).2.2.1 ∈ Ts ∨ ∃ ref, Cond.fieldLink own ix ref (T k).2.1 (T k).2.2.1 ∈ Ts ∧ Cond.sameField ref (T k).1 (T k).2.1 (T k).2.2.1 ∈ Ts) ∧
    (∀ j, j < N → parseFieldDescriptor (T j).2.2.1 = some (ty0 j)) ∧ (∀ a, a < N → ∀ b, b < N → a ≠ b → (T a).2.1 ≠ (T b).2.1) ∧ ty0 k = ty ∧ (ok = true → (T k).2.2.2 = false ∨ ((T k).2.2.2 = true ∧ isI = true ∧ (T k).1 = own))
/-- reads of the heap -/
def ab_s4 (fT : ab_FT) (oc : Nat → Option FieldType) (h : List ab_E) : Instr → Nat → List Value → Option (List Value)
  | .getfield ix, 3, .ref a :: r => (fT ix).bind fun q => (ab_obj h a q.1).bind fun fs => (fs[q.2.1]?).map fun v => v :: r
  | .arraylength, 1, .ref a :: r => match h[a]? with
    | some (.inr (.inl (t, x))) => if t < 4 ∨ (oc (t - 4)).isSome = true then some (.int (Int32.ofNat (ab_len x)) :: r) else none
    | _ => none
  | .iaload, 1, .int i :: .ref a :: r => (ab_arI h a 0).bind fun l => if i < 0 ∨ l.length ≤ i.toNatClampNeg then none else some (.int (l.getD i.toNatClampNeg 0) :: r)
  | .laload, 1, .int i :: .ref a :: r => (ab_arL h a).bind fun l => if i < 0 ∨ l.length ≤ i.toNatClampNeg then none else some (.long (l.getD i.toNatClampNeg 0) :: r)
  | .baload, 1, .int i :: .ref a :: r => match ab_arI h a 2 with
    | some l => if i < 0 ∨ l.length ≤ i.toNatClampNeg then none else some (.int (l.getD i.toNatClampNeg 0) :: r)
    | none => (ab_arI h a 3).bind fun l => if i < 0 ∨ l.length ≤ i.toNatClampNeg then none else some (.int (l.getD i.toNatClampNeg 0) :: r)
  | .aaload, 1, .int i :: .ref a :: r => (ab_arR h a).bind fun q => if i < 0 ∨ q.2.length ≤ i.toNatClampNeg ∨ ¬ (oc (q.1 - 4)).map (fun t => t.isReference) = some true then none else some (ab_rf (q.2.getD i.toNatClampNeg none) :: r)
  | _, _, _ => none
theorem ab_ty_at {cA : Nat → ClassId} {oc : Nat → Option FieldType} {tys : List (ClassId × FieldType)} (hT : ab_Ty cA oc tys) {t : Nat} (h : t < 4 ∨ (oc (t - 4)).isSome = true) : ∃ ty, tys[t]? = some (cA t, ty) := by
  obtain ⟨h0, h1, h2, h3, h4⟩ := hT
  by_cases q : t < 4
  · rcases (show t = 0 ∨ t = 1 ∨ t = 2 ∨ t = 3 by omega) with rfl | rfl | rfl | rfl
    · exact ⟨_, h0⟩
    · exact ⟨_, h1⟩
    · exact ⟨_, h2⟩
    · exact ⟨_, h3⟩
  · obtain ⟨C, hC⟩ := Option.isSome_iff_exists.mp (h.resolve_left q)
    have := h4 _ _ hC
    rw [show t - 4 + 4 = t by omega] at this
    exact ⟨_, this⟩
theorem ab_sA_1 (b : Nat) (x : ab_V) : (ab_sA b x).1 = ab_len x := by
  rcases x with f | f | f <;> rfl
section AB4
variable {p : Program} {l : Launch} {e : Env} {R : Room} {s : State} {m : MethodId} {args : Array Value} {below : List Frame} {meth : Method} {c : Code} {H : Heap} {locs : List Loc} {cells slots : Nat} {Q : State → Prop}
variable {cc : ByteArray} {pc : Nat} {ls : Array Slot} {B : Nat × (Nat → Nat)} {D : va_G} {cl : List vw_C} {tys : List (ClassId × FieldType)} {cA : Nat → ClassId} {oc : Nat → Option FieldType}
/-- a reference out of an array of references -/
theorem ab_aald {a : Nat} {rest : List Value} {ws : va_W} (hexec : p.tables.exec = Jvm.exec) (hb : c.code = cc) (hK : va_K D cl tys s) (hP : va_P D cl ws H) (q0 t0 : Nat) {cB : ClassId} {ty : FieldType} {n : Nat} {f : Nat → Option Nat} (ha : ws[q0]? = some (a, .inl (cB, n, .inr (.inr (.inr (.inr f)))))) (ht : tys[t0]? = some (cB, ty)) (hR : ty.isReference = true) {i : Int32} (hin : vp_in i n) (hdg : decode cc pc = .ok (.aaload, 1))
    (kk : W p l e R s m args below meth c H locs cells slots Q (F0 m (pc + 1) ls (va_rf (f i.toNatClampNeg) :: rest))) : W p l e R s m args below meth c H locs cells slots Q (F0 m pc ls (.int i :: .ref a :: rest)) := by
  have hlt : i.toNatClampNeg < n := Nat.not_le.mp fun q => hin (Or.inr q)
  exact W.aald (v := va_rf (f i.toNatClampNeg)) (ty := ty) hexec hb (hP q0 _ ha) ((hK.2 t0 _ ht).1 n (fun j => va_rf (f j))) hR (fun q => by cases q) (by show ¬ (i < 0 ∨ (arrV _ _ _).slots.size ≤ _); rw [arrV_size]; exact hin) (by show (arrV _ _ _).slots[_]? = _; rw [arrV_read _ _ hlt]) rfl rfl hdg kk
set_option maxHeartbeats 4000000 in
theorem ab_s4_ok (hx : p.tables.exec = Jvm.exec) (hb : c.code = cc) {own : String} {isI : Bool} {Ts : List Cond} (hts : ∀ w ∈ Ts, w.before args s = true) (hown : s.vm.findClass own = some m.cls) {fT : ab_FT} (hF : ab_Fd own isI Ts cl fT) (hT : ab_Ty cA oc tys) (hK : va_K D cl tys s) {h : List ab_E} (hP : va_P D cl (ab_W B cA h) H) {i : Instr} {k : Nat} {st st' : List Value} (hdg : decode cc pc = .ok (i, k)) (hs : ab_s4 fT oc h i k st = some st')
    (K : W p l e R s m args below meth c H locs cells slots Q (F0 m (pc + k) ls (st'.map (ab_rl B)))) : W p l e R s m args below meth c H locs cells slots Q (F0 m pc ls (st.map (ab_rl B))) := by
  unfold ab_s4 at hs
  split at hs
  · obtain ⟨⟨ci, j, ty, ok⟩, h1, h2⟩ := Option.bind_eq_some_iff.mp hs
    obtain ⟨fs, h3, h4⟩ := Option.bind_eq_some_iff.mp h2
    obtain ⟨v, h5, h6⟩ := Option.map_eq_some_iff.mp h4
    cases h6
    obtain ⟨C, T, N, ty0, g1, g2, g3, g4, -⟩ := hF _ _ _ _ _ h1
    obtain ⟨j0, hj0⟩ := ab_W_at (B := B) (cA := cA) (ab_obj_eq h3) rfl
    rcases g4 with g4 | ⟨ref, g4, gS⟩
    · exact va_get (v := ab_rl B v) hx hb hts g3 hown hK hP j0 hj0 g1 j g2 (hts _ g4) (fun _ z => z) (by rw [List.getElem?_map, h5]; rfl) hdg K
    · exact va_get (v := ab_rl B v) hx hb hts g3 hown hK hP j0 hj0 g1 j g2 (hts _ g4) (ab_same (hts _ gS)) (by rw [List.getElem?_map, h5]; rfl) hdg K
  · split at hs
    · rename_i ha
      split at hs
      · rename_i ht
        cases hs
        obtain ⟨ty, hty⟩ := ab_ty_at hT ht
        obtain ⟨j0, hj0⟩ := ab_W_at (B := B) (cA := cA) ha rfl
        exact va_alen hx hb hK hP j0 _ hj0 hty (by rw [ab_sA_1]) hdg K
      · cases hs
    · cases hs
  · obtain ⟨f, h1, h2⟩ := Option.bind_eq_some_iff.mp hs
    split at h2
    · cases h2
    · rename_i hi
      cases h2
      obtain ⟨j0, hj0⟩ := ab_W_at (B := B) (cA := cA) (ab_arI_eq h1) rfl
      exact va_iald hx hb hK hP j0 0 hj0 hT.1 hi hdg K
  · obtain ⟨f, h1, h2⟩ := Option.bind_eq_some_iff.mp hs
    split at h2
    · cases h2
    · rename_i hi
      cases h2
      obtain ⟨j0, hj0⟩ := ab_W_at (B := B) (cA := cA) (ab_arL_eq h1) rfl
      exact va_lald hx hb hK hP j0 1 hj0 hT.2.1 hi hdg K
  · split at hs
    · rename_i h1
      split at hs
      · cases hs
      · rename_i hi
        cases hs
        obtain ⟨j0, hj0⟩ := ab_W_at (B := B) (cA := cA) (ab_arI_eq h1) rfl
        exact va_bald hx hb hK hP j0 2 hj0 hT.2.2.1 hi hdg K
    · obtain ⟨f, h1, h2⟩ := Option.bind_eq_some_iff.mp hs
      split at h2
      · cases h2
      · rename_i hi
        cases h2
        obtain ⟨j0, hj0⟩ := ab_W_at (B := B) (cA := cA) (ab_arI_eq h1) rfl
        exact va_zald hx hb hK hP j0 3 hj0 hT.2.2.2.1 hi hdg K
  · obtain ⟨⟨u, f⟩, h1, h2⟩ := Option.bind_eq_some_iff.mp hs
    split at h2
    · cases h2
    · rename_i hi
      cases h2
      obtain ⟨h3, h4⟩ := ab_arR_eq h1
      obtain ⟨ty, hC, hR⟩ := Option.map_eq_some_iff.mp (Classical.not_not.mp fun z => hi (Or.inr (Or.inr z)))
      have ht := hT.2.2.2.2 _ _ hC
      rw [show u - 4 + 4 = u by omega] at ht
      obtain ⟨j0, hj0⟩ := ab_W_at (B := B) (cA := cA) h3 rfl
      refine ab_aald hx hb hK hP j0 u hj0 ht hR (fun z => hi (z.elim Or.inl (fun y => Or.inr (Or.inl y)))) hdg ?_
      rw [← ab_rf_rl]
      exact K
  · cases hs
end AB4

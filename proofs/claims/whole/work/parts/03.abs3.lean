/-! the heap of an abstract run: a list of cells; the k-th lies at b + k -/
abbrev ab_E : Type := (Nat × vp_A) ⊕ (Nat × List Value)
def ab_sA (b : Nat) : vp_A → vp_A
  | (n, .inr (.inr (.inr (.inr g)))) => (n, .inr (.inr (.inr (.inr (fun i => (g i).map (fun k => b + k))))))
  | x => x
def ab_cE (b : Nat) (cA : Nat → ClassId) : ab_E → va_E
  | .inl (t, x) => .inl (cA t, ab_sA b x)
  | .inr (ci, fs) => .inr (ci, fs.map (ab_rl b))
def ab_W (b : Nat) (cA : Nat → ClassId) (h : List ab_E) : va_W := h.mapIdx (fun k e => (b + k, ab_cE b cA e))
theorem ab_W_get (b : Nat) (cA : Nat → ClassId) (h : List ab_E) (k : Nat) : (ab_W b cA h)[k]? = (h[k]?).map (fun e => (b + k, ab_cE b cA e)) := by
  unfold ab_W
  rw [List.getElem?_mapIdx]
theorem ab_W_at {b : Nat} {cA : Nat → ClassId} {h : List ab_E} {k : Nat} {e : ab_E} (hk : h[k]? = some e) : (ab_W b cA h)[k]? = some (b + k, ab_cE b cA e) := by
  rw [ab_W_get, hk]
  rfl
theorem ab_W_len (b : Nat) (cA : Nat → ClassId) (h : List ab_E) : (ab_W b cA h).length = h.length := by
  unfold ab_W
  rw [List.length_mapIdx]
theorem ab_W_set (b : Nat) (cA : Nat → ClassId) (h : List ab_E) (k : Nat) (e : ab_E) : (ab_W b cA h).set k (b + k, ab_cE b cA e) = ab_W b cA (h.set k e) := by
  apply List.ext_getElem?
  intro j
  rw [List.getElem?_set, ab_W_len, ab_W_get, ab_W_get, List.getElem?_set]
  by_cases hj : k = j
  · subst hj
    by_cases hl : k < h.length
    · simp [hl]
    · simp [hl]
  · simp [hj]
theorem ab_W_push (b : Nat) (cA : Nat → ClassId) (h : List ab_E) (e : ab_E) : ab_W b cA (h ++ [e]) = ab_W b cA h ++ [(b + h.length, ab_cE b cA e)] := by
  unfold ab_W
  rw [List.mapIdx_append]
  simp
theorem ab_D (b : Nat) (cA : Nat → ClassId) (h : List ab_E) : va_D (fun q : Nat => b ≤ q) (ab_W b cA h) := by
  refine ⟨fun i j p q hi hj e => ?_, fun k q hk => ?_⟩
  · rw [ab_W_get] at hi hj
    obtain ⟨x, -, rfl⟩ := Option.map_eq_some_iff.mp hi
    obtain ⟨y, -, rfl⟩ := Option.map_eq_some_iff.mp hj
    exact Nat.add_left_cancel e
  · rw [ab_W_get] at hk
    obtain ⟨x, -, rfl⟩ := Option.map_eq_some_iff.mp hk
    exact Nat.le_add_right b k
/-- slots of a cell, of a heap -/
def ab_z1 : ab_E → Nat
  | .inl (_, x) => x.1
  | .inr (_, fs) => fs.length
def ab_z (h : List ab_E) : Nat := (h.map ab_z1).sum
def ab_obj (h : List ab_E) (a ci : Nat) : Option (List Value) := match h[a]? with
  | some (.inr (cj, fs)) => if cj = ci then some fs else none
  | _ => none
def ab_arI (h : List ab_E) (a t : Nat) : Option (Nat × (Nat → Int32)) := match h[a]? with
  | some (.inl (u, n, .inl f)) => if u = t then some (n, f) else none
  | _ => none
def ab_arL (h : List ab_E) (a : Nat) : Option (Nat × (Nat → Int64)) := match h[a]? with
  | some (.inl (u, n, .inr (.inl f))) => if u = 1 then some (n, f) else none
  | _ => none
def ab_arR (h : List ab_E) (a : Nat) : Option (Nat × Nat × (Nat → Option Nat)) := match h[a]? with
  | some (.inl (u, n, .inr (.inr (.inr (.inr f))))) => if 4 ≤ u then some (u, n, f) else none
  | _ => none
theorem ab_obj_eq {h : List ab_E} {a ci : Nat} {fs : List Value} (q : ab_obj h a ci = some fs) : h[a]? = some (.inr (ci, fs)) := by
  unfold ab_obj at q
  split at q
  · rename_i e
    split at q
    · rename_i ec
      cases q
      rw [e, ec]
    · cases q
  · cases q
theorem ab_arI_eq {h : List ab_E} {a t n : Nat} {f : Nat → Int32} (q : ab_arI h a t = some (n, f)) : h[a]? = some (.inl (t, n, .inl f)) := by
  unfold ab_arI at q
  split at q
  · rename_i e
    split at q
    · rename_i ec
      cases q
      rw [e, ec]
    · cases q
  · cases q
theorem ab_arL_eq {h : List ab_E} {a n : Nat} {f : Nat → Int64} (q : ab_arL h a = some (n, f)) : h[a]? = some (.inl (1, n, .inr (.inl f))) := by
  unfold ab_arL at q
  split at q
  · rename_i e
    split at q
    · rename_i ec
      cases q
      rw [e, ec]
    · cases q
  · cases q
theorem ab_arR_eq {h : List ab_E} {a u n : Nat} {f : Nat → Option Nat} (q : ab_arR h a = some (u, n, f)) : h[a]? = some (.inl (u, n, .inr (.inr (.inr (.inr f))))) ∧ 4 ≤ u := by
  unfold ab_arR at q
  split at q
  · rename_i e
    split at q
    · rename_i ec
      cases q
      exact ⟨e, ec⟩
    · cases q
  · cases q
def ab_rf : Option Nat → Value
  | some k => .ref k
  | none => .null
theorem ab_rf_rl (b : Nat) (r : Option Nat) : ab_rl b (ab_rf r) = va_rf (r.map (fun k => b + k)) := by
  cases r <;> rfl
/-- the array classes by their kinds: 0 int, 1 long, 2 byte, 3 boolean, 4 + j: references to objects of the class oc j -/
def ab_Ty (cA : Nat → ClassId) (oc : Nat → Option String) (tys : List (ClassId × FieldType)) : Prop :=
  tys[0]? = some (cA 0, .int) ∧ tys[1]? = some (cA 1, .long) ∧ tys[2]? = some (cA 2, .byte) ∧ tys[3]? = some (cA 3, .boolean) ∧ ∀ (j : Nat) (C : String), oc j = some C → tys[j + 4]? = some (cA (j + 4), .object C)
/-- a class's fields by the places of its constant pool: object kind, place, type, whether it may be written here -/
abbrev ab_FT : Type := Nat → Option (Nat × Nat × FieldType × Bool)
def ab_Fd (own : String) (isI : Bool) (Ts : List Cond) (cl : List vw_C) (fT : ab_FT) : Prop :=
  ∀ (ix ci k : Nat) (ty : FieldType) (ok : Bool), fT ix = some (ci, k, ty, ok) → ∃ (C : String) (T : u_T) (N : Nat) (ty0 : Nat → FieldType), cl[ci]? = some (C, T, N) ∧ k < N ∧ (∀ w ∈ u_ws C T N, w ∈ Ts) ∧ Cond.fieldLink own ix (T k).1 (T k).2.1 (T k).2.2.1 ∈ Ts ∧
    (∀ j, j < N → parseFieldDescriptor (T j).2.2.1 = some (ty0 j)) ∧ (∀ a, a < N → ∀ b, b < N → a ≠ b → (T a).2.1 ≠ (T b).2.1) ∧ ty0 k = ty ∧ (ok = true → (T k).2.2.2 = false ∨ ((T k).2.2.2 = true ∧ isI = true ∧ (T k).1 = own))
/-- reads of the heap -/
def ab_s4 (fT : ab_FT) (oc : Nat → Option String) (h : List ab_E) : Instr → Nat → List Value → Option (List Value)
  | .getfield ix, 3, .ref a :: r => (fT ix).bind fun q => (ab_obj h a q.1).bind fun fs => (fs[q.2.1]?).map fun v => v :: r
  | .arraylength, 1, .ref a :: r => match h[a]? with
    | some (.inl (t, x)) => if t < 4 ∨ (oc (t - 4)).isSome = true then some (.int (Int32.ofNat x.1) :: r) else none
    | _ => none
  | .iaload, 1, .int i :: .ref a :: r => (ab_arI h a 0).bind fun q => if i < 0 ∨ q.1 ≤ i.toNatClampNeg then none else some (.int (q.2 i.toNatClampNeg) :: r)
  | .laload, 1, .int i :: .ref a :: r => (ab_arL h a).bind fun q => if i < 0 ∨ q.1 ≤ i.toNatClampNeg then none else some (.long (q.2 i.toNatClampNeg) :: r)
  | .baload, 1, .int i :: .ref a :: r => match ab_arI h a 2 with
    | some q => if i < 0 ∨ q.1 ≤ i.toNatClampNeg then none else some (.int (q.2 i.toNatClampNeg) :: r)
    | none => (ab_arI h a 3).bind fun q => if i < 0 ∨ q.1 ≤ i.toNatClampNeg then none else some (.int (q.2 i.toNatClampNeg) :: r)
  | .aaload, 1, .int i :: .ref a :: r => (ab_arR h a).bind fun q => if i < 0 ∨ q.2.1 ≤ i.toNatClampNeg ∨ (oc (q.1 - 4)).isNone = true then none else some (ab_rf (q.2.2 i.toNatClampNeg) :: r)
  | _, _, _ => none
theorem ab_ty_at {cA : Nat → ClassId} {oc : Nat → Option String} {tys : List (ClassId × FieldType)} (hT : ab_Ty cA oc tys) {t : Nat} (h : t < 4 ∨ (oc (t - 4)).isSome = true) : ∃ ty, tys[t]? = some (cA t, ty) := by
  obtain ⟨h0, h1, h2, h3, h4⟩ := hT
  by_cases q : t < 4
  · rcases (show t = 0 ∨ t = 1 ∨ t = 2 ∨ t = 3 by omega) with rfl | rfl | rfl | rfl
    · exact ⟨_, h0⟩
    · exact ⟨_, h1⟩
    · exact ⟨_, h2⟩
    · exact ⟨_, h3⟩
  · obtain ⟨C, hC⟩ := Option.isSome_iff_exists.mp (h.resolve_left q)
    have := h4 _ _ hC
    rw [show t - 4 + 4 = t by omega] at this
    exact ⟨_, this⟩
theorem ab_sA_1 (b : Nat) (x : vp_A) : (ab_sA b x).1 = x.1 := by
  obtain ⟨n, f⟩ := x
  rcases f with f | f | f | f | f <;> rfl
section AB4
variable {p : Program} {l : Launch} {e : Env} {R : Room} {s : State} {m : MethodId} {args : Array Value} {below : List Frame} {meth : Method} {c : Code} {H : Heap} {locs : List Loc} {cells slots : Nat} {Q : State → Prop}
variable {cc : ByteArray} {pc : Nat} {ls : Array Slot} {b : Nat} {D : va_G} {cl : List vw_C} {tys : List (ClassId × FieldType)} {cA : Nat → ClassId} {oc : Nat → Option String}
set_option maxHeartbeats 4000000 in
theorem ab_s4_ok (hx : p.tables.exec = Jvm.exec) (hb : c.code = cc) {own : String} {isI : Bool} {Ts : List Cond} (hts : ∀ w ∈ Ts, w.before args s = true) (hown : s.vm.findClass own = some m.cls) {fT : ab_FT} (hF : ab_Fd own isI Ts cl fT) (hT : ab_Ty cA oc tys) (hK : va_K D cl tys s) {h : List ab_E} (hP : va_P D cl (ab_W b cA h) H) {i : Instr} {k : Nat} {st st' : List Value} (hdg : decode cc pc = .ok (i, k)) (hs : ab_s4 fT oc h i k st = some st')
    (K : W p l e R s m args below meth c H locs cells slots Q (F0 m (pc + k) ls (st'.map (ab_rl b)))) : W p l e R s m args below meth c H locs cells slots Q (F0 m pc ls (st.map (ab_rl b))) := by
  unfold ab_s4 at hs
  split at hs
  · obtain ⟨⟨ci, j, ty, ok⟩, h1, h2⟩ := Option.bind_eq_some_iff.mp hs
    obtain ⟨fs, h3, h4⟩ := Option.bind_eq_some_iff.mp h2
    obtain ⟨v, h5, h6⟩ := Option.map_eq_some_iff.mp h4
    cases h6
    obtain ⟨C, T, N, ty0, g1, g2, g3, g4, -⟩ := hF _ _ _ _ _ h1
    exact va_get (v := ab_rl b v) hx hb hts g3 hown hK hP _ (ab_W_at (ab_obj_eq h3)) g1 j g2 (hts _ g4) (fun _ z => z) (by rw [List.getElem?_map, h5]; rfl) hdg K
  · split at hs
    · rename_i ha
      split at hs
      · rename_i ht
        cases hs
        obtain ⟨ty, hty⟩ := ab_ty_at hT ht
        exact va_alen hx hb hK hP _ _ (ab_W_at ha) hty (by rw [ab_sA_1]) hdg K
      · cases hs
    · cases hs
  · obtain ⟨⟨n, f⟩, h1, h2⟩ := Option.bind_eq_some_iff.mp hs
    split at h2
    · cases h2
    · rename_i hi
      cases h2
      exact va_iald hx hb hK hP _ 0 (ab_W_at (ab_arI_eq h1)) hT.1 hi hdg K
  · obtain ⟨⟨n, f⟩, h1, h2⟩ := Option.bind_eq_some_iff.mp hs
    split at h2
    · cases h2
    · rename_i hi
      cases h2
      exact va_lald hx hb hK hP _ 1 (ab_W_at (ab_arL_eq h1)) hT.2.1 hi hdg K
  · split at hs
    · rename_i h1
      split at hs
      · cases hs
      · rename_i hi
        cases hs
        exact va_bald hx hb hK hP _ 2 (ab_W_at (ab_arI_eq h1)) hT.2.2.1 hi hdg K
    · obtain ⟨⟨n, f⟩, h1, h2⟩ := Option.bind_eq_some_iff.mp hs
      split at h2
      · cases h2
      · rename_i hi
        cases h2
        exact va_zald hx hb hK hP _ 3 (ab_W_at (ab_arI_eq h1)) hT.2.2.2.1 hi hdg K
  · obtain ⟨⟨u, n, f⟩, h1, h2⟩ := Option.bind_eq_some_iff.mp hs
    split at h2
    · cases h2
    · rename_i hi
      cases h2
      obtain ⟨h3, h4⟩ := ab_arR_eq h1
      obtain ⟨C, hC⟩ : ∃ C, oc (u - 4) = some C := by
        cases hq : oc (u - 4) with
        | none => exact absurd (Or.inr (Or.inr (by rw [hq]; rfl))) hi
        | some C => exact ⟨C, rfl⟩
      have ht := hT.2.2.2.2 _ _ hC
      rw [show u - 4 + 4 = u by omega] at ht
      refine va_aldq hx hb hK hP _ u (ab_W_at h3) ht (fun z => hi (z.elim Or.inl (fun y => Or.inr (Or.inl y)))) hdg ?_
      rw [← ab_rf_rl]
      exact K
  · cases hs
end AB4

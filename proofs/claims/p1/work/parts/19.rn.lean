/-! RENAMING: a run on a small heap is a run on every heap that holds it (places renamed by f) -/
def ab_rn (f : Nat → Nat) : Value → Value
  | .ref k => .ref (f k)
  | v => v
def ab_rnL (f : Nat → Nat) (lv : ab_L) : ab_L := lv.map (fun q => (q.1, ab_rn f q.2))
def ab_rnV (f : Nat → Nat) : ab_V → ab_V
  | .inl l => .inl l
  | .inr (.inl l) => .inr (.inl l)
  | .inr (.inr l) => .inr (.inr (l.map (Option.map f)))
def ab_rnE (f : Nat → Nat) : ab_E → ab_E
  | .inl n => .inl n
  | .inr (.inl (t, x)) => .inr (.inl (t, ab_rnV f x))
  | .inr (.inr (ci, fs)) => .inr (.inr (ci, fs.map (ab_rn f)))
theorem ab_rn_cat (f : Nat → Nat) (v : Value) : (ab_rn f v).category = v.category := by cases v <;> rfl
theorem ab_rnV_len (f : Nat → Nat) (x : ab_V) : ab_len (ab_rnV f x) = ab_len x := by
  rcases x with l | l | l
  · rfl
  · rfl
  · exact List.length_map _
theorem ab_rnE_z (f : Nat → Nat) (x : ab_E) : ab_z1 (ab_rnE f x) = ab_z1 x := by
  rcases x with n | ⟨t, x⟩ | ⟨ci, fs⟩
  · rfl
  · exact ab_rnV_len f x
  · exact List.length_map _
/-- the small heap lies in the large one; new cells go on in step -/
def ab_emb (f : Nat → Nat) (h0 h : List ab_E) : Prop := (∀ k e, h0[k]? = some e → h[f k]? = some (ab_rnE f e)) ∧ (∀ j k, f j = f k → j = k) ∧ ∀ j, f (h0.length + j) = h.length + j
/-- behind a step: it lies there still, nothing else has changed, as much is new here as there -/
def ab_sim (f : Nat → Nat) (h0 h h1 h' : List ab_E) : Prop := ab_emb f h1 h' ∧ (∀ j, j < h.length → (∀ k, k < h0.length → f k ≠ j) → h'[j]? = h[j]?) ∧ h'.length + h0.length = h.length + h1.length ∧ ab_z h' + ab_z h0 = ab_z h + ab_z h1 ∧ h0.length ≤ h1.length
theorem ab_sim.rf {f : Nat → Nat} {h0 h : List ab_E} (he : ab_emb f h0 h) : ab_sim f h0 h h0 h := ⟨he, fun _ _ _ => rfl, rfl, rfl, Nat.le_refl _⟩
theorem ab_sim.trans {f : Nat → Nat} {h0 h h1 h' h2 h'' : List ab_E} (he : ab_emb f h0 h) (a : ab_sim f h0 h h1 h') (b : ab_sim f h1 h' h2 h'') : ab_sim f h0 h h2 h'' := by
  obtain ⟨a1, a2, a3, a4, a5⟩ := a
  obtain ⟨b1, b2, b3, b4, b5⟩ := b
  refine ⟨b1, fun j hj hk => ?_, by omega, by omega, by omega⟩
  rw [b2 j (by omega) (fun k hk1 e => ?_)]
  · exact a2 j hj hk
  · by_cases g : k < h0.length
    · exact hk k g e
    · have := he.2.2 (k - h0.length)
      rw [show h0.length + (k - h0.length) = k by omega] at this
      omega
theorem ab_emb.lt {f : Nat → Nat} {h0 h : List ab_E} (he : ab_emb f h0 h) {k : Nat} (hk : k < h0.length) : f k < h.length := by
  obtain ⟨h1, -⟩ := List.getElem?_eq_some_iff.mp (he.1 k _ (List.getElem?_eq_getElem hk))
  exact h1
/-- a cell written -/
theorem ab_sim.set {f : Nat → Nat} {h0 h : List ab_E} (he : ab_emb f h0 h) {a : Nat} {x e : ab_E} (ha : h0[a]? = some x) (hz : ab_z1 e = ab_z1 x) : ab_sim f h0 h (h0.set a e) (h.set (f a) (ab_rnE f e)) := by
  have hl : a < h0.length := (List.getElem?_eq_some_iff.mp ha).1
  have hl2 := he.lt hl
  refine ⟨⟨fun k y hk => ?_, he.2.1, fun j => ?_⟩, fun j hj hk => ?_, ?_, ?_, ?_⟩
  · by_cases g : a = k
    · subst g
      rw [List.getElem?_set_self hl] at hk
      cases hk
      exact List.getElem?_set_self hl2
    · rw [List.getElem?_set_ne g] at hk
      rw [List.getElem?_set_ne (fun z => g (he.2.1 _ _ z))]
      exact he.1 k y hk
  · rw [List.length_set, List.length_set]
    exact he.2.2 j
  · rw [List.getElem?_set_ne (hk a hl)]
  · rw [List.length_set, List.length_set]
  · rw [ab_z_set ha hz, ab_z_set (he.1 a x ha) (by rw [ab_rnE_z, ab_rnE_z]; exact hz)]
  · rw [List.length_set]
    exact Nat.le_refl _
theorem ab_z_map (f : Nat → Nat) (xs : List ab_E) : ab_z (xs.map (ab_rnE f)) = ab_z xs := by
  unfold ab_z
  rw [List.map_map]
  congr 1
  exact List.map_congr_left fun x _ => ab_rnE_z f x
/-- new cells -/
theorem ab_sim.push {f : Nat → Nat} {h0 h : List ab_E} (he : ab_emb f h0 h) (xs : List ab_E) : ab_sim f h0 h (h0 ++ xs) (h ++ xs.map (ab_rnE f)) := by
  refine ⟨⟨fun k y hk => ?_, he.2.1, fun j => ?_⟩, fun j hj hk => ?_, ?_, ?_, ?_⟩
  · by_cases g : k < h0.length
    · rw [List.getElem?_append_left g] at hk
      rw [List.getElem?_append_left (he.lt g)]
      exact he.1 k y hk
    · rw [List.getElem?_append_right (Nat.not_lt.mp g)] at hk
      have := he.2.2 (k - h0.length)
      rw [show h0.length + (k - h0.length) = k by omega] at this
      rw [this, List.getElem?_append_right (by omega), show h.length + (k - h0.length) - h.length = k - h0.length by omega, List.getElem?_map, hk]
      rfl
  · rw [List.length_append, List.length_append, List.length_map, Nat.add_assoc, he.2.2, Nat.add_assoc]
  · exact List.getElem?_append_left hj
  · rw [List.length_append, List.length_append, List.length_map]
    omega
  · rw [ab_z_app, ab_z_app, ab_z_map]
    omega
  · rw [List.length_append]
    omega
theorem ab_rnL_at (f : Nat → Nat) (lv : ab_L) (i : Nat) : ab_at (ab_rnL f lv) i = (ab_at lv i).map (ab_rn f) := by
  unfold ab_at ab_rnL
  induction lv with
  | nil => rfl
  | cons q lv ih =>
    obtain ⟨j, w⟩ := q
    rw [List.map_cons, List.lookup_cons, List.lookup_cons, ih]
    by_cases e : (i == j) = true
    · rw [e]
      rfl
    · rw [Bool.not_eq_true] at e
      rw [e]
theorem ab_rnL_st1 (f : Nat → Nat) (lv : ab_L) (i : Nat) (v : Value) : ab_st1 (ab_rnL f lv) i (ab_rn f v) = ab_rnL f (ab_st1 lv i v) := by
  unfold ab_rnL ab_st1
  rw [List.map_cons, List.filter_map]
  congr 2
  refine List.filter_congr fun q _ => ?_
  simp [ab_rn_cat]
theorem ab_rnL_st2 (f : Nat → Nat) (lv : ab_L) (i : Nat) (v : Value) : ab_st2 (ab_rnL f lv) i (ab_rn f v) = ab_rnL f (ab_st2 lv i v) := by
  unfold ab_rnL ab_st2
  rw [List.map_cons, List.filter_map]
  congr 2
  refine List.filter_congr fun q _ => ?_
  simp [ab_rn_cat]
/-- which piece of the machine does an instruction -/
def ab_c : Instr → Nat
  | .iconst _ | .bipush _ | .sipush _ | .lconst _ | .aconst_null | .iadd | .isub | .imul | .iand | .ior | .ixor | .ishl | .ishr | .iushr | .ineg | .ladd | .lsub | .lmul | .land | .lor | .lxor | .lneg | .lshl | .lshr | .lushr | .i2l | .l2i | .i2b | .i2c | .lcmp | .idiv | .irem | .pop | .dup | .dup_x1 | .dup2 => 1
  | .iload_n _ | .iload _ | .lload_n _ | .lload _ | .aload_n _ | .aload _ | .istore_n _ | .istore _ | .lstore_n _ | .lstore _ | .astore_n _ | .astore _ | .iinc _ _ => 2
  | .goto _ | .ifCond _ _ | .if_icmp _ _ | .ifnull _ | .ifnonnull _ | .tableswitch _ _ _ _ | .lookupswitch _ _ => 3
  | .getfield _ | .arraylength | .iaload | .laload | .baload | .aaload => 4
  | .putfield _ | .iastore | .lastore | .bastore | .aastore => 5
  | .new _ | .newarray _ => 6
  | .ldc _ | .ldc_w _ | .ldc2_w _ => 7
  | .getstatic _ => 8
  | .if_acmp _ _ | .pop2 | .checkcast _ | .instanceof _ => 9
  | .anewarray _ | .multianewarray _ _ => 10
  | .ireturn | .lreturn | .areturn | .return_ => 11
  | .invokestatic _ | .invokevirtual _ | .invokespecial _ => 12
  | .athrow => 13
  | _ => 0
theorem ab_c1 {i : Instr} {k : Nat} {st st' : List Value} (h : ab_s1 i k st = some st') : ab_c i = 1 := by
  unfold ab_s1 at h
  split at h <;> first | rfl | (cases h; done)
theorem ab_c2 {nL : Nat} {i : Instr} {k : Nat} {lv : ab_L} {st : List Value} {r : ab_L × List Value} (h : ab_s2 nL i k lv st = some r) : ab_c i = 2 := by
  unfold ab_s2 at h
  split at h <;> first | rfl | (cases h; done)
theorem ab_c3 {i : Instr} {k pc : Nat} {st : List Value} {r : Nat × List Value} (h : ab_s3 i k pc st = some r) : ab_c i = 3 := by
  unfold ab_s3 at h
  split at h <;> first | rfl | (cases h; done)
theorem ab_c4 {fT : ab_FT} {oc : Nat → Option FieldType} {hh : List ab_E} {i : Instr} {k : Nat} {st st' : List Value} (h : ab_s4 fT oc hh i k st = some st') : ab_c i = 4 := by
  unfold ab_s4 at h
  split at h <;> first | rfl | (cases h; done)
theorem ab_c5 {fT : ab_FT} {oc : Nat → Option FieldType} {cl : List vw_C} {hh : List ab_E} {i : Instr} {k : Nat} {st : List Value} {r : List Value × List ab_E} (h : ab_s5 fT oc cl hh i k st = some r) : ab_c i = 5 := by
  unfold ab_s5 at h
  split at h <;> first | rfl | (cases h; done)
theorem ab_c6 {cT : ab_CT} {hh : List ab_E} {i : Instr} {k : Nat} {st : List Value} {r : List Value × ab_E} (h : ab_s6 cT hh i k st = some r) : ab_c i = 6 := by
  unfold ab_s6 at h
  split at h <;> first | rfl | (cases h; done)
theorem ab_c7 {kI : Nat → Option Int32} {kL : Nat → Option Int64} {i : Instr} {k : Nat} {st st' : List Value} (h : ab_s7 kI kL i k st = some st') : ab_c i = 7 := by
  unfold ab_s7 at h
  split at h <;> first | rfl | (cases h; done)
theorem ab_c8 {X : ab_X} {o : Nat} {i : Instr} {k : Nat} {st st' : List Value} (h : ab_s8 X o i k st = some st') : ab_c i = 8 ∨ ab_c i = 4 ∨ ab_c i = 7 := by
  unfold ab_s8 at h
  split at h <;> first | exact Or.inl rfl | exact Or.inr (Or.inl rfl) | exact Or.inr (Or.inr rfl) | (cases h; done)
theorem ab_c9 {X : ab_X} {oc : Nat → Option FieldType} {o pc : Nat} {hh : List ab_E} {i : Instr} {k : Nat} {st : List Value} {r : Nat × List Value × List ab_E} (h : ab_s9 X oc o hh i k pc st = some r) : ab_c i = 9 ∨ ab_c i = 7 ∨ ab_c i = 5 := by
  unfold ab_s9 at h
  split at h <;> first | exact Or.inl rfl | exact Or.inr (Or.inl rfl) | exact Or.inr (Or.inr rfl) | (cases h; done)
theorem ab_c10 {X : ab_X} {o : Nat} {hh : List ab_E} {i : Instr} {k : Nat} {st : List Value} {r : List Value × List ab_E} (h : ab_s10 X o hh i k st = some r) : ab_c i = 10 := by
  unfold ab_s10 at h
  split at h <;> first | rfl | (cases h; done)
theorem ab_no {α : Type} {x : Option α} (h : ∀ r, x = some r → False) : x = none := by
  cases x with
  | none => rfl
  | some r => exact (h r rfl).elim

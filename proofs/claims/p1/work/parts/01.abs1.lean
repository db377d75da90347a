/-! ABSTRACT RUNS. A small machine over values and cells whose references are places in a list (the k-th cell made lies at B.1 + k); its steps are tied once to the rows of the kit, so that a method is walked by reckoning. -/
def ab_rl (B : Nat × (Nat → Nat)) : Value → Value
  | .ref k => .ref (B.1 + k)
  | .retAddr j => .ref (B.2 j)
  | v => v
/-- locals: a list of places and values, the latest first -/
abbrev ab_L : Type := List (Nat × Value)
def ab_at (lv : ab_L) (i : Nat) : Option Value := lv.lookup i
def ab_st1 (lv : ab_L) (i : Nat) (v : Value) : ab_L := (i, v) :: lv.filter (fun q => !(q.1 == i) && !(q.1 + 1 == i && q.2.category == 2))
def ab_st2 (lv : ab_L) (i : Nat) (v : Value) : ab_L := (i, v) :: lv.filter (fun q => !(q.1 == i) && (!(q.1 == i + 1) && !(q.1 + 1 == i && q.2.category == 2)))
def ab_rlL (B : Nat × (Nat → Nat)) (lv : ab_L) : ab_L := lv.map (fun q => (q.1, ab_rl B q.2))
theorem ab_rl_cat (B : Nat × (Nat → Nat)) (v : Value) : (ab_rl B v).category = v.category := by cases v <;> rfl
theorem ab_at_mem {lv : ab_L} {i : Nat} {v : Value} (h : ab_at lv i = some v) : (i, v) ∈ lv := by
  unfold ab_at at h
  induction lv with
  | nil => cases h
  | cons q lv ih =>
    obtain ⟨j, w⟩ := q
    rw [List.lookup_cons] at h
    by_cases e : (i == j) = true
    · rw [e] at h
      cases h
      rw [eq_of_beq e]
      exact List.mem_cons_self
    · rw [Bool.not_eq_true] at e
      rw [e] at h
      exact List.mem_cons_of_mem _ (ih h)
theorem ab_at_has {B : Nat × (Nat → Nat)} {ls : Array Slot} {nL : Nat} {lv : ab_L} (h : lv_has ls nL (ab_rlL B lv)) {i : Nat} {v : Value} (hv : ab_at lv i = some v) : ls[i]? = some (.val (ab_rl B v)) :=
  h.2.2 (i, ab_rl B v) (List.mem_map.mpr ⟨(i, v), ab_at_mem hv, rfl⟩)
theorem ab_at_place {lv : ab_L} {i : Nat} {v : Value} (hv : ab_at lv i = some v) : ∃ k : Nat, lv[k]? = some (i, v) := List.getElem?_of_mem (ab_at_mem hv)
theorem ab_st1_rl (B : Nat × (Nat → Nat)) (lv : ab_L) (i : Nat) (v : Value) : (i, ab_rl B v) :: (ab_rlL B lv).filter (fun q => !(q.1 == i) && !(q.1 + 1 == i && q.2.category == 2)) = ab_rlL B (ab_st1 lv i v) := by
  unfold ab_rlL ab_st1
  rw [List.map_cons, List.filter_map]
  congr 2
  refine List.filter_congr fun q _ => ?_
  simp [ab_rl_cat]
theorem ab_st2_rl (B : Nat × (Nat → Nat)) (lv : ab_L) (i : Nat) (v : Value) : (i, ab_rl B v) :: (ab_rlL B lv).filter (fun q => !(q.1 == i) && (!(q.1 == i + 1) && !(q.1 + 1 == i && q.2.category == 2))) = ab_rlL B (ab_st2 lv i v) := by
  unfold ab_rlL ab_st2
  rw [List.map_cons, List.filter_map]
  congr 2
  refine List.filter_congr fun q _ => ?_
  simp [ab_rl_cat]
/-- a jump's target -/
def ab_t (pc : Nat) (off : Int) : Option Nat := if 0 ≤ (pc : Int) + off then some ((pc : Int) + off).toNat else none
theorem ab_t_ok {pc t : Nat} {off : Int} (h : ab_t pc off = some t) : (pc : Int) + off = (t : Int) := by
  unfold ab_t at h
  split at h
  · cases h
    omega
  · cases h

/-- what an instruction does to the stack alone -/
def ab_s1 : Instr → Nat → List Value → Option (List Value)
  | .iconst n, 1, r => some (.int (Int32.ofInt n) :: r)
  | .bipush n, 2, r => some (.int (Int8.ofInt n).toInt32 :: r)
  | .sipush n, 3, r => some (.int (Int16.ofInt n).toInt32 :: r)
  | .lconst n, 1, r => some (.long (Int64.ofNat (n : Nat)) :: r)
  | .aconst_null, 1, r => some (.null :: r)
  | .iadd, 1, .int y :: .int x :: r => some (.int (x + y) :: r)
  | .isub, 1, .int y :: .int x :: r => some (.int (x - y) :: r)
  | .imul, 1, .int y :: .int x :: r => some (.int (x * y) :: r)
  | .iand, 1, .int y :: .int x :: r => some (.int (x &&& y) :: r)
  | .ior, 1, .int y :: .int x :: r => some (.int (x ||| y) :: r)
  | .ixor, 1, .int y :: .int x :: r => some (.int (x ^^^ y) :: r)
  | .ishl, 1, .int y :: .int x :: r => some (.int (x <<< (y &&& 31)) :: r)
  | .ishr, 1, .int y :: .int x :: r => some (.int (x >>> (y &&& 31)) :: r)
  | .iushr, 1, .int y :: .int x :: r => some (.int ((x.toUInt32 >>> (y.toUInt32 &&& Int32.toUInt32 31)).toInt32) :: r)
  | .ineg, 1, .int x :: r => some (.int (-x) :: r)
  | .ladd, 1, .long y :: .long x :: r => some (.long (x + y) :: r)
  | .lsub, 1, .long y :: .long x :: r => some (.long (x - y) :: r)
  | .lmul, 1, .long y :: .long x :: r => some (.long (x * y) :: r)
  | .land, 1, .long y :: .long x :: r => some (.long (x &&& y) :: r)
  | .lor, 1, .long y :: .long x :: r => some (.long (x ||| y) :: r)
  | .lxor, 1, .long y :: .long x :: r => some (.long (x ^^^ y) :: r)
  | .lneg, 1, .long x :: r => some (.long (-x) :: r)
  | .lshl, 1, .int y :: .long x :: r => some (.long (x <<< (y.toInt64 &&& 63)) :: r)
  | .lshr, 1, .int y :: .long x :: r => some (.long (x >>> (y.toInt64 &&& 63)) :: r)
  | .lushr, 1, .int y :: .long x :: r => some (.long ((x.toUInt64 >>> (y.toInt64.toUInt64 &&& Int64.toUInt64 63)).toInt64) :: r)
  | .i2l, 1, .int x :: r => some (.long x.toInt64 :: r)
  | .l2i, 1, .long x :: r => some (.int x.toInt32 :: r)
  | .i2b, 1, .int x :: r => some (.int x.toInt8.toInt32 :: r)
  | .i2c, 1, .int x :: r => some (.int (x.toUInt32 % 65536).toInt32 :: r)
  | .lcmp, 1, .long y :: .long x :: r => some (.int (lg_cmp x y) :: r)
  | .idiv, 1, .int y :: .int x :: r => if y = 0 then none else some (.int (x / y) :: r)
  | .irem, 1, .int y :: .int x :: r => if y = 0 then none else some (.int (x - x / y * y) :: r)
  | .pop, 1, v :: r => if v.category = 1 then some (r) else none
  | .dup, 1, v :: r => if v.category = 1 then some (v :: v :: r) else none
  | .dup_x1, 1, v :: w :: r => if v.category = 1 ∧ w.category = 1 then some (v :: w :: v :: r) else none
  | .dup2, 1, v :: w :: r => if v.category = 1 ∧ w.category = 1 then some (v :: w :: v :: w :: r) else none
  | _, _, _ => none
section AB1
variable {p : Program} {l : Launch} {e : Env} {R : Room} {s : State} {m : MethodId} {args : Array Value} {below : List Frame} {meth : Method} {c : Code} {H : Heap} {locs : List Loc} {cells slots : Nat} {Q : State → Prop}
variable {cc : ByteArray} {pc : Nat} {ls : Array Slot} {B : Nat × (Nat → Nat)}
set_option maxHeartbeats 4000000 in
theorem ab_s1_ok (hx : p.tables.exec = Jvm.exec) (hb : c.code = cc) {i : Instr} {k : Nat} {st st' : List Value} (hdg : decode cc pc = .ok (i, k)) (hs : ab_s1 i k st = some st')
    (K : W p l e R s m args below meth c H locs cells slots Q (F0 m (pc + k) ls (st'.map (ab_rl B)))) : W p l e R s m args below meth c H locs cells slots Q (F0 m pc ls (st.map (ab_rl B))) := by
  unfold ab_s1 at hs
  split at hs
  · cases hs
    exact lv_iconst hx hb hdg rfl K
  · cases hs
    exact lv_bipush hx hb hdg rfl K
  · cases hs
    exact lv_sipush hx hb hdg rfl K
  · cases hs
    exact lv_lconst hx hb hdg rfl K
  · cases hs
    exact lv_null hx hb hdg K
  · cases hs
    exact lv_iadd hx hb hdg K
  · cases hs
    exact lv_isub hx hb hdg K
  · cases hs
    exact lv_imul hx hb hdg K
  · cases hs
    exact lv_iand hx hb hdg K
  · cases hs
    exact lv_ior hx hb hdg K
  · cases hs
    exact lv_ixor hx hb hdg K
  · cases hs
    exact lv_ishl hx hb hdg K
  · cases hs
    exact lv_ishr hx hb hdg K
  · cases hs
    exact lv_iushr hx hb hdg rfl K
  · cases hs
    exact lv_ineg hx hb hdg K
  · cases hs
    exact lv_ladd hx hb hdg K
  · cases hs
    exact lv_lsub hx hb hdg K
  · cases hs
    exact lv_lmul hx hb hdg K
  · cases hs
    exact lv_land hx hb hdg K
  · cases hs
    exact lv_lor hx hb hdg K
  · cases hs
    exact lv_lxor hx hb hdg K
  · cases hs
    exact lv_lneg hx hb hdg K
  · cases hs
    exact lv_lshl hx hb hdg rfl K
  · cases hs
    exact lv_lshr hx hb hdg rfl K
  · cases hs
    exact lv_lushr hx hb hdg rfl K
  · cases hs
    exact lv_i2l hx hb hdg rfl K
  · cases hs
    exact lv_l2i hx hb hdg rfl K
  · cases hs
    exact lv_i2b hx hb hdg rfl K
  · cases hs
    exact lv_i2c hx hb hdg rfl K
  · cases hs
    exact W.lcmp hx hb hdg K
  · split at hs
    · cases hs
    · rename_i hne
      cases hs
      exact lv_idiv hx hb hdg hne K
  · split at hs
    · cases hs
    · rename_i hne
      cases hs
      exact lv_irem hx hb hdg hne K
  · split at hs
    · rename_i hc
      cases hs
      exact lv_pop hx hb hdg ((ab_rl_cat B _).trans hc) K
    · cases hs
  · split at hs
    · rename_i hc
      cases hs
      exact lv_dup hx hb hdg ((ab_rl_cat B _).trans hc) K
    · cases hs
  · split at hs
    · rename_i hc
      cases hs
      exact lv_dup_x1 hx hb hdg ((ab_rl_cat B _).trans hc.1) ((ab_rl_cat B _).trans hc.2) K
    · cases hs
  · split at hs
    · rename_i hc
      cases hs
      exact lv_dup2_11 hx hb hdg ((ab_rl_cat B _).trans hc.1) ((ab_rl_cat B _).trans hc.2) K
    · cases hs
  · cases hs
end AB1

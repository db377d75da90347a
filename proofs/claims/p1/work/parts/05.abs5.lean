/-- new cells: an object's kind and its first contents by the place in the constant pool; arrays of numbers -/
abbrev ab_CT : Type := Nat → Option (Nat × List Value)
def ab_Cd (own : String) (Ts : List Cond) (cl : List vw_C) (cT : ab_CT) : Prop :=
  ∀ (ix ci : Nat) (fs : List Value), cT ix = some (ci, fs) → ∃ (C : String) (T : u_T) (N : Nat) (ty0 : Nat → FieldType), cl[ci]? = some (C, T, N) ∧ (∀ w ∈ u_ws C T N, w ∈ Ts) ∧ (∀ j, j < N → parseFieldDescriptor (T j).2.2.1 = some (ty0 j)) ∧
    Cond.classLink own ix C ∈ Ts ∧ Cond.instantiable C N ∈ Ts ∧ Cond.initialized C ∈ Ts ∧ (∀ j, j < N → defaultValue (ty0 j) = vp_V fs j) ∧ fs.length = N ∧ ∀ B, fs.map (ab_rl B) = fs
def ab_na : ArrayType → Option (Nat × FieldType × (Nat → ab_V))
  | .int => some (0, .int, fun n => .inl (List.replicate n 0))
  | .long => some (1, .long, fun n => .inr (.inl (List.replicate n 0)))
  | .byte => some (2, .byte, fun n => .inl (List.replicate n 0))
  | .boolean => some (3, .boolean, fun n => .inl (List.replicate n 0))
  | _ => none
def ab_s6 (cT : ab_CT) (h : List ab_E) : Instr → Nat → List Value → Option (List Value × ab_E)
  | .new ix, 3, r => (cT ix).map fun q => (.ref h.length :: r, .inr (.inr (q.1, q.2)))
  | .newarray a, 2, .int n :: r => (ab_na a).bind fun q => if n < 0 ∨ 60000000 < n.toNatClampNeg then none else some (.ref h.length :: r, .inr (.inl (q.1, q.2.2 n.toNatClampNeg)))
  | _, _, _ => none
section AB6
variable {p : Program} {l : Launch} {e : Env} {R : Room} {s : State} {m : MethodId} {args : Array Value} {below : List Frame} {meth : Method} {c : Code} {H H0 : Heap} {locs : List Loc} {cells slots : Nat} {Q : State → Prop}
variable {cc : ByteArray} {pc : Nat} {ls : Array Slot} {B : Nat × (Nat → Nat)} {D : va_G} {cl : List vw_C} {tys : List (ClassId × FieldType)} {cA : Nat → ClassId} {oc : Nat → Option FieldType}
theorem ab_na0 (N : Nat) (i : Nat) : (List.replicate N (0 : Int32)).getD i 0 = 0 := congrFun (ab_rep N (0 : Int32)) i
theorem ab_na1 (N : Nat) (i : Nat) : (List.replicate N (0 : Int64)).getD i 0 = 0 := congrFun (ab_rep N (0 : Int64)) i
theorem ab_na_spec {a : ArrayType} {t : Nat} {ty : FieldType} {f : Nat → ab_V} (h : ab_na a = some (t, ty, f)) (hT : ab_Ty cA oc tys) (hK : va_K D cl tys s) (N : Nat) : newarray.typeOf a = ty ∧ ab_len (f N) = N ∧ (∀ cA : ClassId, vp_cell cA (ab_sA B.1 (f N)) = arrV cA N (fun _ => defaultValue ty)) ∧ componentBytes ty ≤ 8 ∧ s.vm.findClass ("[" ++ ty.toString) = some (cA t) ∧ ∀ cB : ClassId, va_RA s cB ty → s.vm.findClass ("[" ++ ty.toString) = some cB := by
  cases a <;> first | (cases h; done) | skip
  · cases h
    exact ⟨rfl, List.length_replicate, fun cB => by simp only [ab_sA, vp_cell, List.length_replicate, ab_na0, ab_na1]; rfl, by decide, (hK.2 3 _ hT.2.2.2.1).2, fun _ q => q⟩
  · cases h
    exact ⟨rfl, List.length_replicate, fun cB => by simp only [ab_sA, vp_cell, List.length_replicate, ab_na0, ab_na1]; rfl, by decide, (hK.2 2 _ hT.2.2.1).2, fun _ q => q⟩
  · cases h
    exact ⟨rfl, List.length_replicate, fun cB => by simp only [ab_sA, vp_cell, List.length_replicate, ab_na0, ab_na1]; rfl, by decide, (hK.2 0 _ hT.1).2, fun _ q => q⟩
  · cases h
    exact ⟨rfl, List.length_replicate, fun cB => by simp only [ab_sA, vp_cell, List.length_replicate, ab_na0, ab_na1]; rfl, by decide, (hK.2 1 _ hT.2.1).2, fun _ q => q⟩
set_option maxHeartbeats 4000000 in
theorem ab_s6_ok (hx : p.tables.exec = Jvm.exec) (hb : c.code = cc) {own : String} {Ts : List Cond} (hts : ∀ w ∈ Ts, w.before args s = true) (hown : s.vm.findClass own = some m.cls) {cT : ab_CT} (hC : ab_Cd own Ts cl cT) (hAr : ∀ a q, ab_na a = some q → Cond.arrayClass q.2.1 ∈ Ts) (hT : ab_Ty cA oc tys) (hK : va_K D cl tys s) {h : List ab_E} {x : ab_E} (hP : va_P D cl (ab_W B cA h) H) (hS : va_S (fun q : Nat => B.1 ≤ q) s.heap H locs) (hbs : B.1 ≤ s.heap.size) (hz : H.size = B.1 + h.length) {i : Instr} {k : Nat} {st st' : List Value} (hdg : decode cc pc = .ok (i, k)) (hs : ab_s6 cT h i k st = some (st', x)) (hcells : cells + 1 ≤ R.cells) (hslots : slots + ab_z1 x ≤ R.slots)
    (K : ∀ (H1 : Heap), va_P D cl (ab_W B cA (h ++ [x])) H1 → va_S (fun q : Nat => B.1 ≤ q) s.heap H1 locs → H1.size = B.1 + (h ++ [x]).length → W p l e R s m args below meth c H1 locs (cells + 1) (slots + ab_z1 x) Q (F0 m (pc + k) ls (st'.map (ab_rl B)))) : W p l e R s m args below meth c H locs cells slots Q (F0 m pc ls (st.map (ab_rl B))) := by
  unfold ab_s6 at hs
  split at hs
  · obtain ⟨⟨ci, fs⟩, h1, h2⟩ := Option.map_eq_some_iff.mp hs
    cases h2
    obtain ⟨C, T, N, ty0, g1, g2, g3, g4, g5, g6, g7, g8, g9⟩ := hC _ _ _ h1
    have hKn := hK.1 ci _ g1
    refine W.newcK hx hb hown (hts _ g4) (hts _ g5) (hts _ g6) rfl hdg hcells (by rw [← g8]; exact hslots) hKn.2.1 rfl fun H1 kC hkC e1 z1 o1 => ?_
    have hk : ∀ (k : Nat) (x : Nat × va_E), (ab_W B cA h)[k]? = some x → H1[x.1]? = H[x.1]? := fun k x hx => o1 x.1 ((hP k x hx).lt)
    have e2 := K H1 (ab_P_push (hP.kept hk) (fun y hy => by
      cases hy
      rw [g9, ← hz]
      exact ⟨_, g1, (u_born ty0 hts g2 hKn hkC e1 g3).to g7⟩)) ⟨Nat.le_trans hS.1 (by omega), fun x h1 h2 => (o1 x (Nat.lt_of_lt_of_le h1 hS.1)).trans (hS.2.1 x h1 h2), hS.2.2⟩ (by rw [z1, hz, List.length_append]; rfl)
    rw [hz]
    show W p l e R s m args below meth c H1 locs (cells + 1) (slots + N) Q _
    rw [← g8]
    exact e2
  · obtain ⟨⟨t, ty, f⟩, h1, h2⟩ := Option.bind_eq_some_iff.mp hs
    split at h2
    · cases h2
    · rename_i hq
      cases h2
      rename_i a n r
      obtain ⟨g1, g2, g3, g4, g5, g6⟩ := ab_na_spec (B := B) h1 hT hK n.toNatClampNeg
      have hn : ¬ n < 0 := fun z => hq (Or.inl z)
      have hN : n.toNatClampNeg ≤ 60000000 := Nat.not_lt.mp fun z => hq (Or.inr z)
      refine va_newaK hx hb (by rw [g1]; exact hts _ (hAr _ _ h1)) rfl hdg rfl hn rfl (by rw [g1]; exact Nat.le_trans (Nat.mul_le_mul hN g4) (by decide)) hcells (by have e8 : ab_z1 (.inr (.inl (t, f n.toNatClampNeg))) = n.toNatClampNeg := g2; rw [e8] at hslots; exact hslots) rfl fun H1 cB e1 z1 o1 hAr2 hNm => ?_
      have hk : ∀ (k : Nat) (x : Nat × va_E), (ab_W B cA h)[k]? = some x → H1[x.1]? = H[x.1]? := fun k x hx => o1 x.1 ((hP k x hx).lt)
      rw [g1] at hNm e1
      have e3 : cB = cA t := Option.some.inj (hNm.symm.trans g5)
      subst e3
      have e2 := K H1 (ab_P_push (hP.kept hk) (fun y hy => by
        cases hy
        rw [← hz]
        show H1[H.size]? = some (vp_cell _ _)
        rw [g3]
        exact e1)) ⟨Nat.le_trans hS.1 (by omega), fun x h1 h2 => (o1 x (Nat.lt_of_lt_of_le h1 hS.1)).trans (hS.2.1 x h1 h2), hS.2.2⟩ (by rw [z1, hz, List.length_append]; rfl)
      rw [hz]
      have e8 : ab_z1 (.inr (.inl (t, f n.toNatClampNeg))) = n.toNatClampNeg := g2
      rw [e8] at e2
      exact e2
  · cases hs
end AB6
/-- constants of the pool -/
def ab_s7 (kI : Nat → Option Int32) (kL : Nat → Option Int64) : Instr → Nat → List Value → Option (List Value)
  | .ldc ix, 2, r => (kI ix).map fun v => .int v :: r
  | .ldc_w ix, 3, r => (kI ix).map fun v => .int v :: r
  | .ldc2_w ix, 3, r => (kL ix).map fun v => .long v :: r
  | _, _, _ => none
section AB7
variable {p : Program} {l : Launch} {e : Env} {R : Room} {s : State} {m : MethodId} {args : Array Value} {below : List Frame} {meth : Method} {c : Code} {H : Heap} {locs : List Loc} {cells slots : Nat} {Q : State → Prop}
variable {cc : ByteArray} {pc : Nat} {ls : Array Slot} {B : Nat × (Nat → Nat)}
theorem ab_s7_ok (hx : p.tables.exec = Jvm.exec) (hb : c.code = cc) {own : String} {Ts : List Cond} (hts : ∀ w ∈ Ts, w.before args s = true) (hown : s.vm.findClass own = some m.cls) {kI : Nat → Option Int32} {kL : Nat → Option Int64} (hI : ∀ ix v, kI ix = some v → Cond.constant own ix v ∈ Ts) (hL : ∀ ix v, kL ix = some v → Cond.constantLong own ix v ∈ Ts) {i : Instr} {k : Nat} {st st' : List Value} (hdg : decode cc pc = .ok (i, k)) (hs : ab_s7 kI kL i k st = some st')
    (K : W p l e R s m args below meth c H locs cells slots Q (F0 m (pc + k) ls (st'.map (ab_rl B)))) : W p l e R s m args below meth c H locs cells slots Q (F0 m pc ls (st.map (ab_rl B))) := by
  unfold ab_s7 at hs
  split at hs
  · obtain ⟨v, h1, h2⟩ := Option.map_eq_some_iff.mp hs
    cases h2
    exact lv_ldc hx hb hown (hts _ (hI _ _ h1)) hdg K
  · obtain ⟨v, h1, h2⟩ := Option.map_eq_some_iff.mp hs
    cases h2
    exact lv_ldcw hx hb hown (hts _ (hI _ _ h1)) hdg K
  · obtain ⟨v, h1, h2⟩ := Option.map_eq_some_iff.mp hs
    cases h2
    exact lv_ldc2 hx hb hown (hts _ (hL _ _ h1)) hdg K
  · cases hs
end AB7

/-! the tie: what an abstract run says, the machine does -/
def ab_good (w : Cond) : Prop := (w.onTables && w.keeps) = true ∨ ∃ ty, w = .arrayClass ty
/-- the tables are right: every word that they need stands among TB -/
def ab_OKm (G : ab_G) (TB : List Cond) (M : ab_MI) : Prop :=
  Cond.code (ab_my M) (ab_mc M) (ab_mL M) (ab_mr M) ∈ TB ∧ plainName (ab_my M).cls = true ∧ ab_mL M ≤ 21 ∧ (ab_mi M = true → (ab_my M).name = "<init>") ∧
  ab_Fd (ab_my M).cls (ab_mi M) TB (ab_gK G) (ab_gF G (ab_mo M) (ab_mi M)) ∧ ab_Cd (ab_my M).cls TB (ab_gK G) (ab_gC G (ab_mo M)) ∧
  (∀ ix v, ab_gI G (ab_mo M) ix = some v → Cond.constant (ab_my M).cls ix v ∈ TB) ∧ (∀ ix v, ab_gL G (ab_mo M) ix = some v → Cond.constantLong (ab_my M).cls ix v ∈ TB)
def ab_OKc (G : ab_G) (TB : List Cond) (M : ab_MI) : Prop :=
  ∀ (ix sort y na ci : Nat), ab_gT G (ab_mo M) ix = some (sort, y, na, ci) →
    (sort = 4 → Cond.methodLink (ab_my M).cls ix objectInit ∈ TB ∧ Cond.instanceMethod objectInit ∈ TB ∧ Cond.code objectInit ⟨#[0xb1]⟩ 1 none ∈ TB) ∧
    (sort = 5 → Cond.methodLink (ab_my M).cls ix arraycopyName ∈ TB ∧ Cond.native arraycopyName ∈ TB ∧ Cond.static arraycopyName ∈ TB ∧ Cond.initialized "java/lang/System" ∈ TB) ∧
    (sort = 7 → Cond.methodLink (ab_my M).cls ix Lib.Math.max.name ∈ TB ∧ Cond.static Lib.Math.max.name ∈ TB ∧ Cond.initialized "java/lang/Math" ∈ TB ∧ Cond.code Lib.Math.max.name Lib.Math.max.code 2 (some .int) ∈ TB) ∧
    (sort = 8 → Cond.methodLink (ab_my M).cls ix Lib.Math.min.name ∈ TB ∧ Cond.static Lib.Math.min.name ∈ TB ∧ Cond.initialized "java/lang/Math" ∈ TB ∧ Cond.code Lib.Math.min.name Lib.Math.min.code 2 (some .int) ∈ TB) ∧
    (sort = 9 → Cond.methodLink (ab_my M).cls ix Lib.MathLoose.min_long.x ∈ TB ∧ Cond.static Lib.MathLoose.min_long.x ∈ TB ∧ Cond.initialized "java/lang/Math" ∈ TB ∧ Cond.code Lib.MathLoose.min_long.x Lib.MathLoose.min_long.code 4 (some .long) ∈ TB) ∧
    (sort < 4 ∨ sort = 6 → ∀ M' : ab_MI, ab_gM G y = some M' → (sort ≠ 3 → Cond.methodLink (ab_my M).cls ix (ab_my M') ∈ TB) ∧ Cond.initialized (ab_my M').cls ∈ TB ∧ ((ab_my M').cls ≠ "java/lang/invoke/MethodHandle" ∧ (ab_my M').cls ≠ "java/lang/invoke/VarHandle" ∧ (parseMethodDescriptor (ab_my M').desc).map (fun d => d.parameters.length) = some na) ∧
      (sort = 0 → Cond.instanceMethod (ab_my M') ∈ TB ∧ Cond.selects (ab_my M').cls (ab_my M') (ab_my M') ∈ TB ∧ ∃ q : vw_C, (ab_gK G)[ci]? = some q ∧ q.1 = (ab_my M').cls) ∧
      (sort = 1 → Cond.static (ab_my M') ∈ TB) ∧
      (sort = 6 → Cond.instanceMethod (ab_my M') ∈ TB ∧ Cond.selects (ab_my M').cls (ab_my M') (ab_my M') ∈ TB ∧ (ab_my M').cls = "java/lang/String") ∧
      (sort = 2 ∨ sort = 3 → (ab_my M').name = "<init>" ∧ Cond.instanceMethod (ab_my M') ∈ TB ∧ ab_mr M' = none))
def ab_OK (G : ab_G) (TB : List Cond) : Prop :=
  (∀ w ∈ TB, ab_good w) ∧ (∀ a q, ab_na a = some q → Cond.arrayClass q.2.1 ∈ TB) ∧ ∀ (y : Nat) (M : ab_MI), ab_gM G y = some M → ab_OKm G TB M ∧ ab_OKc G TB M
/-- o is the number of the class of that name -/
def ab_own (G : ab_G) (o : Nat) (own : String) : Prop := (∃ (y : Nat) (M : ab_MI), ab_gM G y = some M ∧ ab_mo M = o ∧ (ab_my M).cls = own) ∨ (o = 52 ∧ own = "DispatchHouseLaw")
def ab_aty : Nat → Option FieldType
  | 0 => some .int
  | 1 => some .long
  | 2 => some .byte
  | 4 => some (.object "java/lang/Object")
  | _ => none
abbrev ab_gcN : MethodName := ⟨"java/lang/Object", "getClass", "()Ljava/lang/Class;"⟩
/-- what was there before is as the tables have it -/
def ab_Xf (B : Nat × (Nat → Nat)) (G : ab_G) (TB : List Cond) (cA : Nat → ClassId) (U : State) (H : Heap) : Prop :=
  (∀ (o : Nat) (own : String), ab_own G o own → ∀ (ix : Nat) (v : Value), (ab_gX G).1 o ix = some v → ∃ C n d : String, Cond.fieldLink own ix C n d ∈ TB ∧ va_Z C n d (ab_rl B v) (fun q : Nat => B.1 ≤ q) U H) ∧
  (∀ (o : Nat) (own : String), ab_own G o own → ∀ (ix fid : Nat), (ab_gX G).2.1 o ix = some fid → ∃ C n d : String, Cond.fieldLink own ix C n d ∈ TB ∧ ∀ (j : Nat) (v : Value), (ab_gX G).2.2.1 j fid = some v → va_OF C n d (ab_rl B v) (B.2 j) (fun q : Nat => B.1 ≤ q) U H) ∧
  (∀ (j t n : Nat) (f : Nat → Value), (ab_gX G).2.2.2.1 j = some (t, n, f) → ∃ ty : FieldType, ab_aty t = some ty ∧ va_T ty (B.2 j) n (fun i => ab_rl B (f i)) (fun q : Nat => B.1 ≤ q) U H) ∧
  (∀ (o : Nat) (own : String), ab_own G o own → ∀ (ix j : Nat), (ab_gX G).2.2.2.2.1 o ix = some j → (∃ tx : String, vk_R own ix tx (B.2 j) U) ∨ (o = 44 ∧ ∃ C : String, Cond.classLink own ix C ∈ TB ∧ va_Mi C (B.2 j) U)) ∧
  (∀ (o : Nat) (own : String), ab_own G o own → ∀ (ix y na ci : Nat) (M' : ab_MI), ab_gT G o ix = some (3, y, na, ci) → ab_gM G y = some M' → ∃ host : String, va_Nw (.methodLinkNest own ix (ab_my M') host) U) ∧
  (∀ j : Nat, (ab_gX G).2.2.2.2.2.1 j = true → va_O "java/lang/String" (B.2 j) (fun q : Nat => B.1 ≤ q) U H) ∧
  (∀ (o : Nat) (own : String), ab_own G o own → ∀ ix k : Nat, ab_xA (ab_gX G) o ix = some k → 4 ≤ k ∧ ∃ C : String, ab_gO G (k - 4) = some (.object C) ∧ Cond.classLink own ix C ∈ TB ∧ va_AO C U) ∧
  (∀ (o : Nat) (own : String), ab_own G o own → ∀ (ix : Nat) (ks : List Nat), ab_xM (ab_gX G) o ix = some ks → ∃ nm : String, Cond.classLink own ix nm ∈ TB ∧ U.vm.findClass nm = some (cA (ks.headD 0)) ∧ ab_ch U.vm cA ks) ∧
  (∀ ci k : Nat, ab_xF (ab_gX G) ci k = true → 4 ≤ k ∧ ∃ (r : vw_C) (E : String), (ab_gK G)[ci]? = some r ∧ ab_gO G (k - 4) = some (.object E) ∧ va_Nw (.castable r.1 E) U) ∧
  (∀ (o : Nat) (own : String), ab_own G o own → ∀ ix ci : Nat, ab_xC (ab_gX G) o ix ci = true → ∃ (r : vw_C) (nm : String), (ab_gK G)[ci]? = some r ∧ Cond.classLink own ix nm ∈ TB ∧ va_Nw (.castable r.1 nm) U) ∧
  (∀ (o : Nat) (own : String), ab_own G o own → ∀ ix : Nat, ab_xS (ab_gX G) o ix = true → Cond.classLink own ix "java/lang/String" ∈ TB) ∧
  (∀ j : Nat, ab_xO (ab_gX G) j = true → B.2 j < B.1) ∧ (∀ i j : Nat, ab_xD (ab_gX G) i j = true → B.2 i ≠ B.2 j) ∧
  (∀ (own : String), ab_own G 44 own → ∀ ix j na ci : Nat, ab_gT G 44 ix = some (10, j, na, ci) → ab_gO G 10 = some (.object "java/lang/Object") ∧ Cond.methodLink own ix ab_gcN ∈ TB ∧ Cond.selects "[Ljava/lang/Object;" ab_gcN ab_gcN ∈ TB ∧ Cond.instanceMethod ab_gcN ∈ TB ∧ Cond.native ab_gcN ∈ TB ∧ va_Dc U ∧ va_Mi "[Ljava/lang/Object;" (B.2 j) U)
theorem ab_Xf.to {B : Nat × (Nat → Nat)} {G : ab_G} {TB : List Cond} {cA : Nat → ClassId} {s U : State} {H0 H : Heap} (h : ab_Xf B G TB cA s H0) (hW : s.WarmedH U.vm) (hq : ∀ a : Nat, a < H0.size → ¬ B.1 ≤ a → H[a]? = H0[a]?) : ab_Xf B G TB cA U H := by
  obtain ⟨h1, h2, h3, h4, h5, h6, h7, h8, h9, h10, h11, h12, h13, h14⟩ := h
  refine ⟨fun o own ho ix v hv => ?_, fun o own ho ix fid hv => ?_, fun j t n f hv => ?_, fun o own ho ix j hv => ?_, fun o own ho ix y na ci M' hv hM' => ?_, fun j hj => ?_, fun o own ho ix k hk => ?_, fun o own ho ix ks hk => ?_, fun ci k hk => ?_, fun o own ho ix ci hk => ?_, h11, h12, h13, fun own ho ix j na ci hk => ?_⟩
  · obtain ⟨C, n, d, g1, g2⟩ := h1 o own ho ix v hv
    exact ⟨C, n, d, g1, (g2.kept hq).moved hW.alike⟩
  · obtain ⟨C, n, d, g1, g2⟩ := h2 o own ho ix fid hv
    exact ⟨C, n, d, g1, fun j v hj => ((g2 j v hj).kept hq).moved hW.alike⟩
  · obtain ⟨ty, g1, g2⟩ := h3 j t n f hv
    exact ⟨ty, g1, (g2.kept hq).moved hW.alike⟩
  · rcases h4 o own ho ix j hv with ⟨tx, g1⟩ | ⟨g0, C, g1, g2⟩
    · exact Or.inl ⟨tx, g1.warm hW⟩
    · exact Or.inr ⟨g0, C, g1, g2.moved hW.alike⟩
  · obtain ⟨host, g1⟩ := h5 o own ho ix y na ci M' hv hM'
    exact ⟨host, g1.warmM hW⟩
  · exact ((h6 j hj).kept hq).moved hW.alike
  · obtain ⟨g0, C, g1, g2, g3⟩ := h7 o own ho ix k hk
    exact ⟨g0, C, g1, g2, g3.moved hW.alike⟩
  · obtain ⟨nm, g1, g2, g3⟩ := h8 o own ho ix ks hk
    exact ⟨nm, g1, by rw [hW.alike.findClass]; exact g2, g3.moved hW.alike⟩
  · obtain ⟨g0, r, E, g1, g2, g3⟩ := h9 ci k hk
    exact ⟨g0, r, E, g1, g2, g3.warmC hW⟩
  · obtain ⟨r, nm, g1, g2, g3⟩ := h10 o own ho ix ci hk
    exact ⟨r, nm, g1, g2, g3.warmC hW⟩
  · obtain ⟨g1, g2, g3, g4, g5, g6, g7⟩ := h14 own ho ix j na ci hk
    exact ⟨g1, g2, g3, g4, g5, g6.moved hW.alike, g7.moved hW.alike⟩
/-- the room of a run: frames d deep -/
abbrev ab_R (d mc ms : Nat) : Room := { frames := d, cells := mc, slots := ms, locals := 40 * d }
def ab_Pc (B : Nat × (Nat → Nat)) (D : va_G) (G : ab_G) (TB : List Cond) (cA : Nat → ClassId) (tys : List (ClassId × FieldType)) (As : List Value) (h : List ab_E) : Array Value → State → Prop := fun v U =>
  v = (As.map (ab_rl B)).toArray ∧ U.heap.size = B.1 + h.length ∧ va_P D (ab_gK G) (ab_W B cA h) U.heap ∧ va_K D (ab_gK G) tys U ∧ ab_Xf B G TB cA U U.heap
def ab_Qc (B : Nat × (Nat → Nat)) (D : va_G) (G : ab_G) (cA : Nat → ClassId) (r : Option Value) (h : List ab_E) : Array Value → State → Outcome → State → Prop := fun _ st oc t =>
  oc = .returned (r.map (ab_rl B)) ∧ t.heap.size = B.1 + h.length ∧ va_P D (ab_gK G) (ab_W B cA h) t.heap ∧ va_F (fun q : Nat => B.1 ≤ q) st t
theorem ab_args_rl (B : Nat × (Nat → Nat)) : ∀ (vs : List Value) (i : Nat), lv_args i (vs.map (ab_rl B)) = ab_rlL B (lv_args i vs)
  | [], _ => rfl
  | v :: vs, i => by
    show (i, ab_rl B v) :: lv_args (if (ab_rl B v).category = 2 then i + 2 else i + 1) (vs.map (ab_rl B)) = (i, ab_rl B v) :: ab_rlL B _
    rw [ab_rl_cat, ab_args_rl B vs]
theorem ab_sl_rl (B : Nat × (Nat → Nat)) : ∀ vs : List Value, (lg_sl (vs.map (ab_rl B))).length = (lg_sl vs).length
  | [] => rfl
  | v :: vs => by
    have ih := ab_sl_rl B vs
    unfold lg_sl at ih ⊢
    rw [List.map_cons, List.flatMap_cons, List.flatMap_cons, List.length_append, List.length_append, ih, ab_rl_cat]
    congr 1
    split <;> rfl
theorem ab_cat_rl (B : Nat × (Nat → Nat)) (r : List Value) : ((r.map (ab_rl B)).map fun v => v.category).sum = ab_cat r := by
  unfold ab_cat
  rw [List.map_map]
  congr 1
  refine List.map_congr_left fun v _ => ?_
  exact ab_rl_cat B v
section AB8
variable {p : Program} {l : Launch} {e : Env} {R : Room} {s : State} {m : MethodId} {args : Array Value} {below : List Frame} {meth : Method} {c : Code} {H : Heap} {locs : List Loc} {cells slots : Nat} {Q : State → Prop}
variable {cc : ByteArray} {pc : Nat} {ls : Array Slot} {B : Nat × (Nat → Nat)} {D : va_G} {G : ab_G} {tys : List (ClassId × FieldType)} {cA : Nat → ClassId}
set_option maxHeartbeats 4000000 in
theorem ab_aeq_ok {TB : List Cond} {U : State} {H0 : Heap} (hX : ab_Xf B G TB cA U H0) {x y : Value} {b : Bool} (h : ab_aeq (ab_gX G) x y = some b) : ∃ rx ry : Option Nat, ab_rl B x = va_rf rx ∧ ab_rl B y = va_rf ry ∧ (b = true ↔ rx = ry) := by
  obtain ⟨-, -, -, -, -, -, -, -, -, -, -, hO, hD, -⟩ := hX
  unfold ab_aeq at h
  split at h
  · cases h
    refine ⟨some (B.1 + _), some (B.1 + _), rfl, rfl, ?_⟩
    rw [decide_eq_true_iff, Option.some.injEq]
    exact ⟨fun q => by rw [q], fun q => Nat.add_left_cancel q⟩
  · cases h
    exact ⟨none, none, rfl, rfl, by simp⟩
  · cases h
    exact ⟨some (B.1 + _), none, rfl, rfl, by simp⟩
  · cases h
    exact ⟨none, some (B.1 + _), rfl, rfl, by simp⟩
  · cases h
    exact ⟨some (B.2 _), none, rfl, rfl, by simp⟩
  · cases h
    exact ⟨none, some (B.2 _), rfl, rfl, by simp⟩
  · rename_i a j
    split at h
    · rename_i hj
      cases h
      refine ⟨some (B.1 + a), some (B.2 j), rfl, rfl, ?_⟩
      have := hO j hj
      rw [Option.some.injEq]
      exact ⟨fun q => (Bool.false_ne_true q).elim, fun q => by omega⟩
    · cases h
  · rename_i j a
    split at h
    · rename_i hj
      cases h
      refine ⟨some (B.2 j), some (B.1 + a), rfl, rfl, ?_⟩
      have := hO j hj
      rw [Option.some.injEq]
      exact ⟨fun q => (Bool.false_ne_true q).elim, fun q => by omega⟩
    · cases h
  · rename_i i j
    split at h
    · rename_i hij
      cases h
      subst hij
      exact ⟨some (B.2 i), some (B.2 i), rfl, rfl, by simp⟩
    · split at h
      · rename_i hij
        cases h
        refine ⟨some (B.2 i), some (B.2 j), rfl, rfl, ?_⟩
        have := hD i j hij
        rw [Option.some.injEq]
        exact ⟨fun q => (Bool.false_ne_true q).elim, fun q => absurd q this⟩
      · cases h
  · cases h
set_option maxHeartbeats 4000000 in
theorem ab_s9_ok (hx : p.tables.exec = Jvm.exec) (hb : c.code = cc) {own : String} {o : Nat} {TB : List Cond} (hts : ∀ w ∈ TB, w.before args s = true) (hown : s.vm.findClass own = some m.cls) (ho : ab_own G o own) (hX : ab_Xf B G TB cA s s.heap) (hT : ab_Ty cA (ab_gO G) tys) (hK : va_K D (ab_gK G) tys s) {h h' : List ab_E} (hP : va_P D (ab_gK G) (ab_W B cA h) H) (hS0 : va_S (fun q : Nat => B.1 ≤ q) s.heap H locs) {i : Instr} {k t : Nat} {st st' : List Value} (hdg : decode cc pc = .ok (i, k)) (hs : ab_s9 (ab_gX G) (ab_gO G) o h i k pc st = some (t, st', h'))
    (K : ∀ (H1 : Heap) (locs1 : List Loc), va_P D (ab_gK G) (ab_W B cA h') H1 → va_S (fun q : Nat => B.1 ≤ q) s.heap H1 locs1 → H.size ≤ H1.size → W p l e R s m args below meth c H1 locs1 cells slots Q (F0 m t ls (st'.map (ab_rl B)))) : W p l e R s m args below meth c H locs cells slots Q (F0 m pc ls (st.map (ab_rl B))) := by
  have hX0 := hX
  obtain ⟨-, -, -, h4, -, h6, -, -, h9, h10, h11, -, -, -⟩ := hX
  have hD := ab_D B cA h
  have hS : va_S (fun q : Nat => B.1 ≤ q) H H locs := ⟨Nat.le_refl _, fun _ _ _ => rfl, hS0.2.2⟩
  unfold ab_s9 at hs
  split at hs
  · obtain ⟨b, q1, q2⟩ := Option.bind_eq_some_iff.mp hs
    rename_i y x r
    obtain ⟨rx, ry, e1, e2, e3⟩ := ab_aeq_ok hX0 q1
    rw [List.map_cons, List.map_cons, e1, e2]
    obtain ⟨t9, q3, q4⟩ := Option.bind_eq_some_iff.mp q2
    refine lv_acmp_eq hx hb hdg (ab_t_ok q3) (fun z => ?_) (fun z => ?_)
    · rw [if_pos (e3.mpr z)] at q4
      cases q4
      exact K _ _ hP hS0 (Nat.le_refl _)
    · rw [if_neg (fun y => z (e3.mp y))] at q4
      cases q4
      exact K _ _ hP hS0 (Nat.le_refl _)
  · obtain ⟨b, q1, q2⟩ := Option.bind_eq_some_iff.mp hs
    rename_i y x r
    obtain ⟨rx, ry, e1, e2, e3⟩ := ab_aeq_ok hX0 q1
    rw [List.map_cons, List.map_cons, e1, e2]
    obtain ⟨t9, q3, q4⟩ := Option.bind_eq_some_iff.mp q2
    refine lv_acmp_ne hx hb hdg (ab_t_ok q3) (fun z => ?_) (fun z => ?_)
    · rw [if_neg (fun y => z (e3.mp y))] at q4
      cases q4
      exact K _ _ hP hS0 (Nat.le_refl _)
    · rw [if_pos (e3.mpr z)] at q4
      cases q4
      exact K _ _ hP hS0 (Nat.le_refl _)
  · split at hs
    · rename_i hc
      cases hs
      exact lv_pop2_2 hx hb hdg ((ab_rl_cat B _).trans hc) (K _ _ hP hS0 (Nat.le_refl _))
    · cases hs
  · split at hs
    · cases hs
    · rename_i ho4
      obtain ⟨j, q1, q2⟩ := Option.map_eq_some_iff.mp hs
      cases q2
      rcases h4 _ _ ho _ _ q1 with ⟨tx, g1⟩ | ⟨g0, -⟩
      · intro T hT2 X
        obtain ⟨t, a1, b1⟩ := K _ _ hP hS0 (Nat.le_refl _) T hT2 X
        exact ⟨t, X.ldcStringW hx hown (text := tx) (a := B.2 j) g1.1 g1.2 (g := F0 m pc ls (st.map (ab_rl B))) rfl (by rw [hb]; exact hdg) t a1, b1⟩
      · exact absurd g0 ho4
  · split at hs
    · rename_i ha
      split at hs
      · rename_i hc
        cases hs
        obtain ⟨r, nm, g1, g2, g3⟩ := h10 _ _ ho _ _ hc
        obtain ⟨j0, hj0⟩ := ab_W_at (B := B) (cA := cA) ha rfl
        exact va_castY hx hb hown (hts _ g2) g3 (va_recv hK hP g1 hj0) hdg (K _ _ hP hS0 (Nat.le_refl _))
      · cases hs
    · cases hs
  · cases hs
    exact lv_castN hx hb hdg (K _ _ hP hS0 (Nat.le_refl _))
  · split at hs
    · rename_i hc
      cases hs
      obtain ⟨cell, o1, o2, o3, -⟩ := (h6 _ hc.2).kept hS0.2.1
      exact va_castE hx hb hown (hts _ (h11 _ _ ho _ hc.1)) ⟨cell, o1, o2, o3⟩ hdg (K _ _ hP hS0 (Nat.le_refl _))
    · cases hs
  · split at hs
    · rename_i hc
      cases hs
      obtain ⟨cell, o1, o2, o3, -⟩ := (h6 _ hc.2).kept hS0.2.1
      exact va_instE hx hb hown (hts _ (h11 _ _ ho _ hc.1)) ⟨cell, o1, o2, o3⟩ hdg (K _ _ hP hS0 (Nat.le_refl _))
    · cases hs
  · cases hs
    exact lv_instN hx hb hdg (K _ _ hP hS0 (Nat.le_refl _))
  · obtain ⟨⟨u, f⟩, q1, q2⟩ := Option.bind_eq_some_iff.mp hs
    split at q2
    · rename_i hv
      split at q2
      · cases q2
      · rename_i hi
        split at q2
        · rename_i hq
          cases q2
          obtain ⟨g0, r, E, g1, g2, g3⟩ := h9 _ _ hq
          obtain ⟨h3, -⟩ := ab_arR_eq q1
          have ht := hT.2.2.2.2 _ _ g2
          rw [show u - 4 + 4 = u by dsimp only at g0; omega] at ht
          obtain ⟨j0, hj0⟩ := ab_W_at (B := B) (cA := cA) h3 rfl
          obtain ⟨j1, hj1⟩ := ab_W_at (B := B) (cA := cA) hv rfl
          refine va_astqO hx hb hK hP hD hS j0 u j1 _ hj0 ht g3 hj1 g1 hi hdg (fun H1 locs1 a1 a2 a3 => K H1 locs1 ?_ (ab_S_trans hS0 a3) a3.1)
          refine ab_P_set hj0 (x' := _) ?_ a1
          show some (Sum.inl (cA _, ab_sA B.1 (.inr (.inr _)))) = some (Sum.inl (cA _, _))
          simp only [ab_sA, List.length_set, ab_set_up _ _ _ (Nat.not_le.mp fun z => hi (Or.inr z))]
        · cases q2
    · cases q2
  · obtain ⟨⟨u, f⟩, q1, q2⟩ := Option.bind_eq_some_iff.mp hs
    split at q2
    · cases q2
    · rename_i hi
      split at q2
      · rename_i C hC
        cases q2
        obtain ⟨h3, h30⟩ := ab_arR_eq q1
        have ht := hT.2.2.2.2 _ _ hC
        rw [show u - 4 + 4 = u by omega] at ht
        obtain ⟨j0, hj0⟩ := ab_W_at (B := B) (cA := cA) h3 rfl
        refine va_astqN hx hb hK hP hD hS j0 u hj0 ht hi hdg (fun H1 locs1 a1 a2 a3 => K H1 locs1 ?_ (ab_S_trans hS0 a3) a3.1)
        refine ab_P_set hj0 (x' := _) ?_ a1
        show some (Sum.inl (cA _, ab_sA B.1 (.inr (.inr _)))) = some (Sum.inl (cA _, _))
        simp only [ab_sA, List.length_set, ab_set_upN _ _ (Nat.not_le.mp fun z => hi (Or.inr z))]
      · cases q2
  · cases hs
theorem ab_P_app {cl : List vw_C} {h : List ab_E} {H1 : Heap} (xs : List ab_E) (hP : va_P D cl (ab_W B cA h) H1) (hx : ∀ (i : Nat) (y : ab_E) (x : va_E), xs[i]? = some y → ab_cE B cA y = some x → va_at D cl (B.1 + (h.length + i), x) H1) : va_P D cl (ab_W B cA (h ++ xs)) H1 := by
  intro i q hq
  obtain ⟨k2, e2, x2, h1, h2, rfl⟩ := ab_W_mem.mp (List.mem_of_getElem? hq)
  by_cases hk : k2 < h.length
  · rw [List.getElem?_append_left hk] at h1
    obtain ⟨j2, h3⟩ := ab_W_at h1 h2
    exact hP j2 _ h3
  · rw [List.getElem?_append_right (Nat.not_lt.mp hk)] at h1
    have := hx _ _ _ h1 h2
    rw [show h.length + (k2 - h.length) = k2 by omega] at this
    exact this
theorem ab_cnt_eq : ∀ {d : Nat} {st r : List Value} {ns : List Int32}, ab_cnt d st = some (ns, r) → ns.length = d ∧ st = (ns.map Value.int).reverse ++ r
  | 0, st, r, ns, hs => by
    cases hs
    exact ⟨rfl, rfl⟩
  | d + 1, [], r, ns, hs => by cases hs
  | d + 1, v :: st, r, ns, hs => by
    cases v <;> first | (cases hs; done) | skip
    obtain ⟨⟨ns', r'⟩, q1, q2⟩ := Option.map_eq_some_iff.mp hs
    cases q2
    obtain ⟨e1, e2⟩ := ab_cnt_eq q1
    refine ⟨by rw [List.length_append, e1]; rfl, ?_⟩
    rw [List.map_append, List.reverse_append, e2]
    rfl
theorem ab_ints_rl (B : Nat × (Nat → Nat)) (ns : List Int32) : (ns.map Value.int).map (ab_rl B) = ns.map Value.int := by
  rw [List.map_map]
  rfl
set_option maxHeartbeats 4000000 in
theorem ab_s10_ok (hx : p.tables.exec = Jvm.exec) (hb : c.code = cc) {own : String} {o : Nat} {TB : List Cond} (hts : ∀ w ∈ TB, w.before args s = true) (hown : s.vm.findClass own = some m.cls) (ho : ab_own G o own) (hX : ab_Xf B G TB cA s s.heap) (hT : ab_Ty cA (ab_gO G) tys) (hK : va_K D (ab_gK G) tys s) {h xs : List ab_E} (hP : va_P D (ab_gK G) (ab_W B cA h) H) (hS : va_S (fun q : Nat => B.1 ≤ q) s.heap H locs) (hbs : B.1 ≤ s.heap.size) (hz : H.size = B.1 + h.length) {i : Instr} {k : Nat} {st st' : List Value} (hdg : decode cc pc = .ok (i, k)) (hs : ab_s10 (ab_gX G) o h i k st = some (st', xs)) (hcells : cells + xs.length ≤ R.cells) (hslots : slots + ab_z xs ≤ R.slots)
    (K : ∀ (H1 : Heap), va_P D (ab_gK G) (ab_W B cA (h ++ xs)) H1 → va_S (fun q : Nat => B.1 ≤ q) s.heap H1 locs → H1.size = B.1 + (h ++ xs).length → W p l e R s m args below meth c H1 locs (cells + xs.length) (slots + ab_z xs) Q (F0 m (pc + k) ls (st'.map (ab_rl B)))) : W p l e R s m args below meth c H locs cells slots Q (F0 m pc ls (st.map (ab_rl B))) := by
  obtain ⟨-, -, -, -, -, -, h7, h8, -⟩ := hX
  have hfin : ∀ (xs : List ab_E), (∀ e ∈ xs, ∃ t x, e = (.inr (.inl (t, x)) : ab_E)) → ∀ H1 : Heap, H1 = H ++ (xs.map (ab_cell B cA)).toArray → va_P D (ab_gK G) (ab_W B cA (h ++ xs)) H1 ∧ va_S (fun q : Nat => B.1 ≤ q) s.heap H1 locs ∧ H1.size = B.1 + (h ++ xs).length := by
    intro xs hxs H1 e1
    subst e1
    have old : ∀ q : Nat, q < H.size → (H ++ (xs.map (ab_cell B cA)).toArray)[q]? = H[q]? := fun q hq => Array.getElem?_append_left hq
    refine ⟨ab_P_app xs (hP.kept (fun k x hx => old x.1 ((hP k x hx).lt))) (fun i y x hi hy => ?_), ⟨Nat.le_trans hS.1 (by simp), fun q h1 h2 => (old q (Nat.lt_of_lt_of_le h1 hS.1)).trans (hS.2.1 q h1 h2), hS.2.2⟩, by simp [hz, Nat.add_assoc]⟩
    obtain ⟨t, v, rfl⟩ := hxs y (List.mem_of_getElem? hi)
    cases hy
    show (H ++ (xs.map (ab_cell B cA)).toArray)[B.1 + (h.length + i)]? = some (vp_cell (cA t) (ab_sA B.1 v))
    rw [Array.getElem?_append_right (by omega), show B.1 + (h.length + i) - H.size = i by omega]
    simp [hi, ab_cell]
  unfold ab_s10 at hs
  split at hs
  · obtain ⟨kk, q1, q2⟩ := Option.bind_eq_some_iff.mp hs
    rename_i ix n r
    split at q2
    · cases q2
    · rename_i hq
      cases q2
      obtain ⟨g0, C, g1, g2, g3⟩ := h7 _ _ ho _ _ q1
      have hn : ¬ n < 0 := fun z => hq (Or.inl z)
      have hN : n.toNatClampNeg ≤ 60000000 := Nat.not_lt.mp fun z => hq (Or.inr z)
      have ht := hT.2.2.2.2 _ _ g1
      rw [show kk - 4 + 4 = kk by omega] at ht
      have hcB := (hK.2 kk _ ht).2
      have hz1 : ab_z [(.inr (.inl (kk, .inr (.inr (List.replicate n.toNatClampNeg none)))) : ab_E)] = n.toNatClampNeg := by simp [ab_z, ab_z1, ab_len]
      rw [hz1] at hslots K
      refine W.anew hx hb hown (hts _ g2) (va_AO.use g3) rfl hdg rfl hn (by omega) hcells hslots fun cB kA comp f1 f2 f3 f4 => ?_
      obtain ⟨kA2, comp2, -, -, -, f5⟩ := hcB
      cases f1.symm.trans f5
      obtain ⟨a1, a2, a3⟩ := hfin [.inr (.inl (kk, .inr (.inr (List.replicate n.toNatClampNeg none))))] (fun e he => ⟨_, _, List.mem_singleton.mp he⟩) (H.push { cls := cA kk, slots := Array.replicate n.toNatClampNeg .null, vm := .none }) (by
        rw [List.map_singleton]
        have e5 : ab_cell B cA (.inr (.inl (kk, .inr (.inr (List.replicate n.toNatClampNeg none))))) = { cls := cA kk, slots := Array.replicate n.toNatClampNeg .null, vm := .none } := by
          unfold ab_cell ab_sA vp_cell arrV
          simp only [List.length_replicate]
          congr 1
          apply Array.ext_getElem?
          intro i
          by_cases e : i < n.toNatClampNeg
          · simp [e, va_rf, List.getD]
          · simp [e]
        rw [e5]
        simp)
      rw [hz]
      exact K _ a1 a2 a3
  · obtain ⟨ks, q1, q2⟩ := Option.bind_eq_some_iff.mp hs
    obtain ⟨⟨ns, r⟩, q3, q4⟩ := Option.bind_eq_some_iff.mp q2
    split at q4
    · rename_i hq
      cases q4
      obtain ⟨g1, g2, g3⟩ := hq
      obtain ⟨e1, e2⟩ := ab_cnt_eq q3
      obtain ⟨nm, f1, f2, f3⟩ := h8 _ _ ho _ _ q1
      subst e2
      rw [List.map_append, List.map_reverse, ab_ints_rl]
      refine ab_multi (B := B) (h := h) hx hb hown (hts _ f1) f2 f3 (g1.trans e1.symm) e1 g2 (fun n hn => by simpa using List.all_eq_true.mp g3 n hn) hz hcells hslots hdg (fun H1 e3 => ?_)
      obtain ⟨a1, a2, a3⟩ := hfin _ (ab_mk_arr _ _ _) H1 e3
      rw [hz]
      exact K H1 a1 a2 a3
    · cases q4
  · cases hs
set_option maxHeartbeats 4000000 in
theorem ab_s8_ok (hx : p.tables.exec = Jvm.exec) (hb : c.code = cc) {own : String} {o : Nat} {TB : List Cond} (hts : ∀ w ∈ TB, w.before args s = true) (hown : s.vm.findClass own = some m.cls) (ho : ab_own G o own) (hX : ab_Xf B G TB cA s s.heap) (hS : va_S (fun q : Nat => B.1 ≤ q) s.heap H locs) {i : Instr} {k : Nat} {st st' : List Value} (hdg : decode cc pc = .ok (i, k)) (hs : ab_s8 (ab_gX G) o i k st = some st')
    (K : W p l e R s m args below meth c H locs cells slots Q (F0 m (pc + k) ls (st'.map (ab_rl B)))) : W p l e R s m args below meth c H locs cells slots Q (F0 m pc ls (st.map (ab_rl B))) := by
  obtain ⟨h1, h2, h3, h4, -⟩ := hX
  unfold ab_s8 at hs
  split at hs
  · obtain ⟨v, q1, q2⟩ := Option.map_eq_some_iff.mp hs
    cases q2
    obtain ⟨C, n, d, g1, g2⟩ := h1 _ _ ho _ _ q1
    exact va_gets hx hb g2 hS hown (hts _ g1) (fun _ z => z) hdg K
  · obtain ⟨fid, q1, q2⟩ := Option.bind_eq_some_iff.mp hs
    obtain ⟨v, q3, q4⟩ := Option.map_eq_some_iff.mp q2
    cases q4
    obtain ⟨C, n, d, g1, g2⟩ := h2 _ _ ho _ _ q1
    exact vk_getf hx hb (g2 _ _ q3) hS hown (hts _ g1) (fun _ z => z) hdg K
  · obtain ⟨⟨t, n, f⟩, q1, q2⟩ := Option.map_eq_some_iff.mp hs
    cases q2
    obtain ⟨ty, g1, g2⟩ := h3 _ _ _ _ q1
    exact va_tlen hx hb g2 hS rfl hdg K
  · obtain ⟨⟨t, n, f⟩, q1, q2⟩ := Option.bind_eq_some_iff.mp hs
    split at q2
    · rename_i q3
      obtain ⟨q4, q5⟩ := q3
      dsimp only at q4
      subst q4
      cases q2
      obtain ⟨ty, g1, g2⟩ := h3 _ _ _ _ q1
      cases g1
      exact va_ti hx hb g2 hS q5 rfl hdg K
    · cases q2
  · obtain ⟨⟨t, n, f⟩, q1, q2⟩ := Option.bind_eq_some_iff.mp hs
    split at q2
    · rename_i q3
      obtain ⟨q4, q5⟩ := q3
      dsimp only at q4
      subst q4
      cases q2
      obtain ⟨ty, g1, g2⟩ := h3 _ _ _ _ q1
      cases g1
      exact va_tl hx hb g2 hS q5 rfl hdg K
    · cases q2
  · obtain ⟨⟨t, n, f⟩, q1, q2⟩ := Option.bind_eq_some_iff.mp hs
    split at q2
    · rename_i q3
      obtain ⟨q4, q5⟩ := q3
      dsimp only at q4
      subst q4
      cases q2
      obtain ⟨ty, g1, g2⟩ := h3 _ _ _ _ q1
      cases g1
      exact va_tb hx hb g2 hS q5 rfl hdg K
    · cases q2
  · obtain ⟨j, q1, q2⟩ := Option.map_eq_some_iff.mp hs
    cases q2
    rcases h4 _ _ ho _ _ q1 with ⟨tx, g1⟩ | ⟨g0, C, g1, g2⟩
    · exact va_ldcS hx hb hown g1 hdg K
    · exact va_ldcM hx hb hown (hts _ g1) g2 hdg K
  · cases hs
set_option maxHeartbeats 4000000 in
theorem ab_cp_ok (hx : p.tables.exec = Jvm.exec) (hb : c.code = cc) (hml : c.maxLocals = ls.size) {own : String} {TB : List Cond} (hts : ∀ w ∈ TB, w.before args s = true) (hown : s.vm.findClass own = some m.cls) {oc : Nat → Option FieldType} (hT : ab_Ty cA oc tys) (hK : va_K D (ab_gK G) tys s) {h h' : List ab_E} (hP : va_P D (ab_gK G) (ab_W B cA h) H) (hS0 : va_S (fun q : Nat => B.1 ≤ q) s.heap H locs) {index : Nat} {st st' : List Value} (hdg : decode cc pc = .ok (.invokestatic index, 3)) (hw : Cond.methodLink own index arraycopyName ∈ TB ∧ Cond.native arraycopyName ∈ TB ∧ Cond.static arraycopyName ∈ TB ∧ Cond.initialized "java/lang/System" ∈ TB) (hs : ab_cp h st = some (st', h')) (hR1 : 1 ≤ R.frames) (hR2 : 40 ≤ R.locals)
    (K : ∀ (H1 : Heap) (locs1 : List Loc), va_P D (ab_gK G) (ab_W B cA h') H1 → va_S (fun q : Nat => B.1 ≤ q) s.heap H1 locs1 → H.size ≤ H1.size → W p l e R s m args below meth c H1 locs1 cells slots Q (F0 m (pc + 3) ls (st'.map (ab_rl B)))) : W p l e R s m args below meth c H locs cells slots Q (F0 m pc ls (st.map (ab_rl B))) := by
  have hD := ab_D B cA h
  have hS : va_S (fun q : Nat => B.1 ≤ q) H H locs := ⟨Nat.le_refl _, fun _ _ _ => rfl, hS0.2.2⟩
  have hnw : nativeFrameWords "java/lang/System" "arraycopy" 5 + 11 ≤ 32 := by decide
  unfold ab_cp at hs
  split at hs
  · split at hs
    · cases hs
    · rename_i hneg
      simp only [not_or] at hneg
      obtain ⟨n1, n2, n3, n4⟩ := hneg
      have hlo : ∀ r : List Value, ab_cat r ≤ 8 → ((r.map (ab_rl B)).map fun v => v.category).sum + (nativeFrameWords "java/lang/System" "arraycopy" 5 + 11) ≤ R.locals := fun r hr => by rw [ab_cat_rl]; omega
      split at hs
      · rename_i q0 h0
        obtain ⟨f, h1, h2⟩ := Option.bind_eq_some_iff.mp hs
        split at h2
        · rename_i hq
          cases h2
          obtain ⟨j0, hj0⟩ := ab_W_at (B := B) (cA := cA) (ab_arI_eq h0) rfl
          obtain ⟨j1, hj1⟩ := ab_W_at (B := B) (cA := cA) (ab_arI_eq h1) rfl
          refine va_copyi hx hb hml hown (hts _ hw.1) (hts _ hw.2.1) (hts _ hw.2.2.1) (hts _ hw.2.2.2) hK hP hD hS j0 j1 0 0 hj0 hj1 hT.1 hT.1 rfl n3 n2 n1 hq.1 hq.2 (fun _ _ => rfl) hR1 (hlo _ (Nat.not_lt.mp n4)) hdg (fun H1 locs1 a1 a2 a3 => K H1 locs1 (ab_P_set hj1 (x' := _) (by show some (Sum.inl (cA _, ab_sA B.1 (.inl _))) = some (Sum.inl (cA _, _)); simp only [ab_sA, ab_lay_len, ab_lay_cpy _ _ _ hq.2]) a1) (ab_S_trans hS0 a3) a3.1)
        · cases h2
      · split at hs
        · rename_i q0 h0
          obtain ⟨f, h1, h2⟩ := Option.bind_eq_some_iff.mp hs
          split at h2
          · rename_i hq
            cases h2
            obtain ⟨j0, hj0⟩ := ab_W_at (B := B) (cA := cA) (ab_arL_eq h0) rfl
            obtain ⟨j1, hj1⟩ := ab_W_at (B := B) (cA := cA) (ab_arL_eq h1) rfl
            refine va_copyl hx hb hml hown (hts _ hw.1) (hts _ hw.2.1) (hts _ hw.2.2.1) (hts _ hw.2.2.2) hK hP hD hS j0 j1 1 1 hj0 hj1 hT.2.1 hT.2.1 rfl n3 n2 n1 hq.1 hq.2 (fun _ _ => rfl) hR1 (hlo _ (Nat.not_lt.mp n4)) hdg (fun H1 locs1 a1 a2 a3 => K H1 locs1 (ab_P_set hj1 (x' := _) (by show some (Sum.inl (cA _, ab_sA B.1 (.inr (.inl _)))) = some (Sum.inl (cA _, _)); simp only [ab_sA, ab_lay_len, ab_lay_cpy _ _ _ hq.2]) a1) (ab_S_trans hS0 a3) a3.1)
          · cases h2
        · obtain ⟨f0, h0, h3⟩ := Option.bind_eq_some_iff.mp hs
          obtain ⟨f, h1, h2⟩ := Option.bind_eq_some_iff.mp h3
          split at h2
          · rename_i hq
            cases h2
            obtain ⟨j0, hj0⟩ := ab_W_at (B := B) (cA := cA) (ab_arI_eq h0) rfl
            obtain ⟨j1, hj1⟩ := ab_W_at (B := B) (cA := cA) (ab_arI_eq h1) rfl
            refine va_copyi hx hb hml hown (hts _ hw.1) (hts _ hw.2.1) (hts _ hw.2.2.1) (hts _ hw.2.2.2) hK hP hD hS j0 j1 2 2 hj0 hj1 hT.2.2.1 hT.2.2.1 rfl n3 n2 n1 hq.1 hq.2.1 hq.2.2 hR1 (hlo _ (Nat.not_lt.mp n4)) hdg (fun H1 locs1 a1 a2 a3 => K H1 locs1 (ab_P_set hj1 (x' := _) (by show some (Sum.inl (cA _, ab_sA B.1 (.inl _))) = some (Sum.inl (cA _, _)); simp only [ab_sA, ab_lay_len, ab_lay_cpy _ _ _ hq.2.1]) a1) (ab_S_trans hS0 a3) a3.1)
          · cases h2
  · cases hs
theorem ab_getD_mem {l : List (Option Nat)} {i v : Nat} (h : l.getD i none = some v) : some v ∈ l := by
  rw [List.getD] at h
  cases hg : l[i]? with
  | none =>
    rw [hg] at h
    cases h
  | some w =>
    rw [hg] at h
    have e : w = some v := h
    rw [← e]
    exact List.mem_of_getElem? hg
theorem ab_lay_cpyR (b : Nat) (l0 l : List (Option Nat)) {sp dp n : Nat} (h : dp + n ≤ l.length) : (fun i => ((ab_lay l0 l none sp dp n).getD i none).map (fun k => b + k)) = va_cpy (fun i => (l0.getD i none).map (fun k => b + k)) (fun i => (l.getD i none).map (fun k => b + k)) sp dp n := by
  funext i
  have e : (ab_lay l0 l none sp dp n).getD i none = va_cpy (fun j => l0.getD j none) (fun j => l.getD j none) sp dp n i := congrFun (ab_lay_cpy l0 l none h) i
  rw [e]
  unfold va_cpy
  split <;> rfl
theorem ab_cq_ok (hx : p.tables.exec = Jvm.exec) (hb : c.code = cc) (hml : c.maxLocals = ls.size) {own : String} {TB : List Cond} (hts : ∀ w ∈ TB, w.before args s = true) (hown : s.vm.findClass own = some m.cls) (hX : ab_Xf B G TB cA s s.heap) (hT : ab_Ty cA (ab_gO G) tys) (hK : va_K D (ab_gK G) tys s) {h h' : List ab_E} (hP : va_P D (ab_gK G) (ab_W B cA h) H) (hS0 : va_S (fun q : Nat => B.1 ≤ q) s.heap H locs) {index : Nat} {st st' : List Value} (hdg : decode cc pc = .ok (.invokestatic index, 3)) (hw : Cond.methodLink own index arraycopyName ∈ TB ∧ Cond.native arraycopyName ∈ TB ∧ Cond.static arraycopyName ∈ TB ∧ Cond.initialized "java/lang/System" ∈ TB) (hs : ab_cq (ab_gX G) (ab_gO G) h st = some (st', h')) (hR1 : 1 ≤ R.frames) (hR2 : 40 ≤ R.locals)
    (K : ∀ (H1 : Heap) (locs1 : List Loc), va_P D (ab_gK G) (ab_W B cA h') H1 → va_S (fun q : Nat => B.1 ≤ q) s.heap H1 locs1 → H.size ≤ H1.size → W p l e R s m args below meth c H1 locs1 cells slots Q (F0 m (pc + 3) ls (st'.map (ab_rl B)))) : W p l e R s m args below meth c H locs cells slots Q (F0 m pc ls (st.map (ab_rl B))) := by
  have hD := ab_D B cA h
  have hS : va_S (fun q : Nat => B.1 ≤ q) H H locs := ⟨Nat.le_refl _, fun _ _ _ => rfl, hS0.2.2⟩
  have hnw : nativeFrameWords "java/lang/System" "arraycopy" 5 + 11 ≤ 32 := by decide
  obtain ⟨-, -, -, -, -, -, -, -, h9, -⟩ := hX
  unfold ab_cq at hs
  split at hs
  · split at hs
    · cases hs
    · rename_i hneg
      simp only [not_or] at hneg
      obtain ⟨n1, n2, n3, n4⟩ := hneg
      have hlo : ∀ r : List Value, ab_cat r ≤ 8 → ((r.map (ab_rl B)).map fun v => v.category).sum + (nativeFrameWords "java/lang/System" "arraycopy" 5 + 11) ≤ R.locals := fun r hr => by rw [ab_cat_rl]; omega
      obtain ⟨⟨u0, f0⟩, h0, h3⟩ := Option.bind_eq_some_iff.mp hs
      obtain ⟨⟨u, f⟩, h1, h2⟩ := Option.bind_eq_some_iff.mp h3
      split at h2
      · rename_i hq
        obtain ⟨k1, k2, k3, k4, k5, k6⟩ := hq
        dsimp only at k1 k2 k3 k4 k5
        obtain ⟨E9, hO⟩ : ∃ E9, ab_gO G 10 = some (.object E9) := by
          unfold ab_isO at k6
          split at k6
          · rename_i E9 hO
            exact ⟨E9, hO⟩
          · cases k6
        subst k3
        subst k4
        cases h2
        have ht := hT.2.2.2.2 10 _ hO
        obtain ⟨j0, hj0⟩ := ab_W_at (B := B) (cA := cA) (ab_arR_eq h0).1 rfl
        obtain ⟨j1, hj1⟩ := ab_W_at (B := B) (cA := cA) (ab_arR_eq h1).1 rfl
        refine va_copyM hx hb hml hown (hts _ hw.1) (hts _ hw.2.1) (hts _ hw.2.2.1) (hts _ hw.2.2.2) hK hP hD hS j0 j1 14 14 hj0 hj1 ht ht n3 n2 n1 k1 k2 (fun i hi y hy => ?_) hR1 (hlo _ (Nat.not_lt.mp n4)) hdg (fun H1 locs1 a1 a2 a3 => K H1 locs1 (ab_P_set hj1 (x' := _) ?_ a1) (ab_S_trans hS0 a3) a3.1)
        · obtain ⟨v, hv, rfl⟩ := Option.map_eq_some_iff.mp hy
          have hin : some v ∈ f0 := ab_getD_mem hv
          have hok := List.all_eq_true.mp k5 _ hin
          unfold ab_okE at hok
          dsimp only at hok
          split at hok
          · rename_i ci fs hv2
            obtain ⟨-, r, E, g1, g2, g3⟩ := h9 _ _ hok
            cases (hO.symm.trans g2)
            obtain ⟨jv, hjv⟩ := ab_W_at (B := B) (cA := cA) hv2 rfl
            refine va_rAny hK hP hjv g1 (fun comp c0 e1 e2 => ?_)
            obtain ⟨c1, t1, f1, f2, f3⟩ := Cond.castable_spec (va_Nw.use (A := args) rfl g3)
            cases e2.symm.trans f1
            cases e1.symm.trans f2
            exact f3
          · cases hok
        · show some (Sum.inl (cA _, ab_sA B.1 (.inr (.inr _)))) = some (Sum.inl (cA _, _))
          simp only [ab_sA, ab_lay_len, ab_lay_cpyR _ _ _ k2]
      · cases h2
  · cases hs
/-- getClass() of an Object[] -/
theorem ab_gc_ok (hx : p.tables.exec = Jvm.exec) (hb : c.code = cc) (hml : c.maxLocals = ls.size) {own : String} {TB : List Cond} (hts : ∀ w ∈ TB, w.before args s = true) (hown : s.vm.findClass own = some m.cls) (ho : ab_own G 44 own) (hX : ab_Xf B G TB cA s s.heap) (hT : ab_Ty cA (ab_gO G) tys) (hK : va_K D (ab_gK G) tys s) {h : List ab_E} (hP : va_P D (ab_gK G) (ab_W B cA h) H) {ix j na ci a : Nat} {l9 : List (Option Nat)} {r : List Value} (hgt : ab_gT G 44 ix = some (10, j, na, ci)) (ha : h[a]? = some (.inr (.inl (14, .inr (.inr l9))))) (hc : ab_cat r ≤ 8) (hdg : decode cc pc = .ok (.invokevirtual ix, 3)) (hR1 : 1 ≤ R.frames) (hR2 : 40 ≤ R.locals)
    (K : W p l e R s m args below meth c H locs cells slots Q (F0 m (pc + 3) ls ((.retAddr j :: r).map (ab_rl B)))) : W p l e R s m args below meth c H locs cells slots Q (F0 m pc ls ((.ref a :: r).map (ab_rl B))) := by
  obtain ⟨g1, g2, g3, g4, g5, g6, g7⟩ := hX.2.2.2.2.2.2.2.2.2.2.2.2.2 own ho ix j na ci hgt
  have ht := hT.2.2.2.2 10 _ g1
  obtain ⟨j0, hj0⟩ := ab_W_at (B := B) (cA := cA) ha rfl
  have hcell := hP j0 _ hj0
  refine va_getC hx hb hml hown (hts _ g2) g6.use (hts _ g3) (hts _ g4) (hts _ g5) g7 ⟨_, hcell, rfl, va_nmO (hK.2 14 _ ht).2 rfl⟩ hR1 (by rw [ab_cat_rl]; omega) hdg K
/-- behind a call -/
theorem ab_behind {mc ms : Nat} {rest st0 : List Value} {a : Array Value} {r : Option Value} {h' : List ab_E} {rv : List Value} (hr : va_Run p l e R s m args below meth c H locs cells slots mc ms (F0 m pc ls st0) rest (ab_Qc B D G cA r h' a) (fun q : Nat => B.1 ≤ q)) (hS : va_S (fun q : Nat => B.1 ≤ q) s.heap H locs) (hrv : (r.map (ab_rl B)).toList ++ rest = rv)
    (K : ∀ (H1 : Heap) (locs1 : List Loc), va_P D (ab_gK G) (ab_W B cA h') H1 → va_S (fun q : Nat => B.1 ≤ q) s.heap H1 locs1 → H1.size = B.1 + h'.length → W p l e R s m args below meth c H1 locs1 (cells + mc) (slots + ms) Q (F0 m (pc + 3) ls rv)) : W p l e R s m args below meth c H locs cells slots Q (F0 m pc ls st0) := by
  intro T hT X
  obtain ⟨v, st₀, t, T', L, h0, X', hL, e1, e2, ⟨hv, hz, hP, hF⟩, st⟩ := hr T hT X
  cases hv
  subst hrv
  have hS1 : va_S (fun q : Nat => B.1 ≤ q) s.heap t.heap (locs ++ L) := by
    refine ⟨Nat.le_trans hS.1 (by rw [← h0]; exact hF.1), fun q h1 h2 => ?_, fun q hq => ?_⟩
    · rw [hF.2 q (by rw [h0]; exact Nat.lt_of_lt_of_le h1 hS.1) h2, h0]
      exact hS.2.1 q h1 h2
    · rcases List.mem_append.mp hq with z | z
      · exact hS.2.2 q z
      · exact hL q z
  obtain ⟨t2, a1, b1⟩ := K t.heap (locs ++ L) hP hS1 hz T' e1 X'
  exact ⟨t2, st t2 a1, b1⟩
end AB8

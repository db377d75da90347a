/-! the tie: what an abstract run says, the machine does -/
def ab_good (w : Cond) : Prop := (w.onTables && w.keeps) = true ∨ ∃ ty, w = .arrayClass ty
/-- the tables are right: every word that they need stands among TB -/
def ab_OKm (G : ab_G) (TB : List Cond) (M : ab_MI) : Prop :=
  Cond.code (ab_my M) (ab_mc M) (ab_mL M) (ab_mr M) ∈ TB ∧ plainName (ab_my M).cls = true ∧ ab_mL M ≤ 21 ∧ (ab_mi M = true → (ab_my M).name = "<init>") ∧
  ab_Fd (ab_my M).cls (ab_mi M) TB (ab_gK G) (ab_gF G (ab_mo M) (ab_mi M)) ∧ ab_Cd (ab_my M).cls TB (ab_gK G) (ab_gC G (ab_mo M)) ∧
  (∀ ix v, ab_gI G (ab_mo M) ix = some v → Cond.constant (ab_my M).cls ix v ∈ TB) ∧ (∀ ix v, ab_gL G (ab_mo M) ix = some v → Cond.constantLong (ab_my M).cls ix v ∈ TB)
def ab_OKc (G : ab_G) (TB : List Cond) (M : ab_MI) : Prop :=
  ∀ (ix sort y na ci : Nat), ab_gT G (ab_mo M) ix = some (sort, y, na, ci) →
    (sort = 4 → Cond.methodLink (ab_my M).cls ix objectInit ∈ TB ∧ Cond.instanceMethod objectInit ∈ TB ∧ Cond.code objectInit ⟨#[0xb1]⟩ 1 none ∈ TB) ∧
    (sort = 5 → Cond.methodLink (ab_my M).cls ix arraycopyName ∈ TB ∧ Cond.native arraycopyName ∈ TB ∧ Cond.static arraycopyName ∈ TB ∧ Cond.initialized "java/lang/System" ∈ TB) ∧
    (sort = 7 → Cond.methodLink (ab_my M).cls ix Lib.Math.max.name ∈ TB ∧ Cond.static Lib.Math.max.name ∈ TB ∧ Cond.initialized "java/lang/Math" ∈ TB ∧ Cond.code Lib.Math.max.name Lib.Math.max.code 2 (some .int) ∈ TB) ∧
    (sort = 8 → Cond.methodLink (ab_my M).cls ix Lib.Math.min.name ∈ TB ∧ Cond.static Lib.Math.min.name ∈ TB ∧ Cond.initialized "java/lang/Math" ∈ TB ∧ Cond.code Lib.Math.min.name Lib.Math.min.code 2 (some .int) ∈ TB) ∧
    (sort = 9 → Cond.methodLink (ab_my M).cls ix Lib.MathLoose.min_long.x ∈ TB ∧ Cond.static Lib.MathLoose.min_long.x ∈ TB ∧ Cond.initialized "java/lang/Math" ∈ TB ∧ Cond.code Lib.MathLoose.min_long.x Lib.MathLoose.min_long.code 4 (some .long) ∈ TB) ∧
    (sort < 4 ∨ sort = 6 → ∀ M' : ab_MI, ab_gM G y = some M' → (sort ≠ 3 → Cond.methodLink (ab_my M).cls ix (ab_my M') ∈ TB) ∧ Cond.initialized (ab_my M').cls ∈ TB ∧ ((ab_my M').cls ≠ "java/lang/invoke/MethodHandle" ∧ (ab_my M').cls ≠ "java/lang/invoke/VarHandle" ∧ (parseMethodDescriptor (ab_my M').desc).map (fun d => d.parameters.length) = some na) ∧
      (sort = 0 → Cond.instanceMethod (ab_my M') ∈ TB ∧ Cond.selects (ab_my M').cls (ab_my M') (ab_my M') ∈ TB ∧ ∃ q : vw_C, (ab_gK G)[ci]? = some q ∧ q.1 = (ab_my M').cls) ∧
      (sort = 1 → Cond.static (ab_my M') ∈ TB) ∧
      (sort = 6 → Cond.instanceMethod (ab_my M') ∈ TB ∧ Cond.selects (ab_my M').cls (ab_my M') (ab_my M') ∈ TB ∧ (ab_my M').cls = "java/lang/String") ∧
      (sort = 2 ∨ sort = 3 → (ab_my M').name = "<init>" ∧ Cond.instanceMethod (ab_my M') ∈ TB ∧ ab_mr M' = none))
def ab_OK (G : ab_G) (TB : List Cond) : Prop :=
  (∀ w ∈ TB, ab_good w) ∧ (∀ a q, ab_na a = some q → Cond.arrayClass q.2.1 ∈ TB) ∧ ∀ (y : Nat) (M : ab_MI), ab_gM G y = some M → ab_OKm G TB M ∧ ab_OKc G TB M
/-- o is the number of the class of that name -/
def ab_own (G : ab_G) (o : Nat) (own : String) : Prop := ∃ (y : Nat) (M : ab_MI), ab_gM G y = some M ∧ ab_mo M = o ∧ (ab_my M).cls = own
def ab_aty : Nat → Option FieldType
  | 0 => some .int
  | 1 => some .long
  | 2 => some .byte
  | _ => none
/-- what was there before is as the tables have it -/
def ab_Xf (B : Nat × (Nat → Nat)) (G : ab_G) (TB : List Cond) (U : State) (H : Heap) : Prop :=
  (∀ (o : Nat) (own : String), ab_own G o own → ∀ (ix : Nat) (v : Value), (ab_gX G).1 o ix = some v → ∃ C n d : String, Cond.fieldLink own ix C n d ∈ TB ∧ va_Z C n d (ab_rl B v) (fun q : Nat => B.1 ≤ q) U H) ∧
  (∀ (o : Nat) (own : String), ab_own G o own → ∀ (ix fid : Nat), (ab_gX G).2.1 o ix = some fid → ∃ C n d : String, Cond.fieldLink own ix C n d ∈ TB ∧ ∀ (j : Nat) (v : Value), (ab_gX G).2.2.1 j fid = some v → va_OF C n d (ab_rl B v) (B.2 j) (fun q : Nat => B.1 ≤ q) U H) ∧
  (∀ (j t n : Nat) (f : Nat → Value), (ab_gX G).2.2.2.1 j = some (t, n, f) → ∃ ty : FieldType, ab_aty t = some ty ∧ va_T ty (B.2 j) n (fun i => ab_rl B (f i)) (fun q : Nat => B.1 ≤ q) U H) ∧
  (∀ (o : Nat) (own : String), ab_own G o own → ∀ (ix j : Nat), (ab_gX G).2.2.2.2.1 o ix = some j → ∃ tx : String, vk_R own ix tx (B.2 j) U) ∧
  (∀ (o : Nat) (own : String), ab_own G o own → ∀ (ix y na ci : Nat) (M' : ab_MI), ab_gT G o ix = some (3, y, na, ci) → ab_gM G y = some M' → ∃ host : String, va_Nw (.methodLinkNest own ix (ab_my M') host) U) ∧
  (∀ j : Nat, (ab_gX G).2.2.2.2.2 j = true → va_O "java/lang/String" (B.2 j) (fun q : Nat => B.1 ≤ q) U H)
theorem ab_Xf.to {B : Nat × (Nat → Nat)} {G : ab_G} {TB : List Cond} {s U : State} {H0 H : Heap} (h : ab_Xf B G TB s H0) (hW : s.WarmedH U.vm) (hq : ∀ a : Nat, a < H0.size → ¬ B.1 ≤ a → H[a]? = H0[a]?) : ab_Xf B G TB U H := by
  obtain ⟨h1, h2, h3, h4, h5, h6⟩ := h
  refine ⟨fun o own ho ix v hv => ?_, fun o own ho ix fid hv => ?_, fun j t n f hv => ?_, fun o own ho ix j hv => ?_, fun o own ho ix y na ci M' hv hM' => ?_, fun j hj => ?_⟩
  · obtain ⟨C, n, d, g1, g2⟩ := h1 o own ho ix v hv
    exact ⟨C, n, d, g1, (g2.kept hq).moved hW.alike⟩
  · obtain ⟨C, n, d, g1, g2⟩ := h2 o own ho ix fid hv
    exact ⟨C, n, d, g1, fun j v hj => ((g2 j v hj).kept hq).moved hW.alike⟩
  · obtain ⟨ty, g1, g2⟩ := h3 j t n f hv
    exact ⟨ty, g1, (g2.kept hq).moved hW.alike⟩
  · obtain ⟨tx, g1⟩ := h4 o own ho ix j hv
    exact ⟨tx, g1.warm hW⟩
  · obtain ⟨host, g1⟩ := h5 o own ho ix y na ci M' hv hM'
    exact ⟨host, g1.warmM hW⟩
  · exact ((h6 j hj).kept hq).moved hW.alike
/-- the room of a run: frames d deep -/
abbrev ab_R (d mc ms : Nat) : Room := { frames := d, cells := mc, slots := ms, locals := 40 * d }
def ab_Pc (B : Nat × (Nat → Nat)) (D : va_G) (G : ab_G) (TB : List Cond) (cA : Nat → ClassId) (tys : List (ClassId × FieldType)) (As : List Value) (h : List ab_E) : Array Value → State → Prop := fun v U =>
  v = (As.map (ab_rl B)).toArray ∧ U.heap.size = B.1 + h.length ∧ va_P D (ab_gK G) (ab_W B cA h) U.heap ∧ va_K D (ab_gK G) tys U ∧ ab_Xf B G TB U U.heap
def ab_Qc (B : Nat × (Nat → Nat)) (D : va_G) (G : ab_G) (cA : Nat → ClassId) (r : Option Value) (h : List ab_E) : Array Value → State → Outcome → State → Prop := fun _ st oc t =>
  oc = .returned (r.map (ab_rl B)) ∧ t.heap.size = B.1 + h.length ∧ va_P D (ab_gK G) (ab_W B cA h) t.heap ∧ va_F (fun q : Nat => B.1 ≤ q) st t
theorem ab_args_rl (B : Nat × (Nat → Nat)) : ∀ (vs : List Value) (i : Nat), lv_args i (vs.map (ab_rl B)) = ab_rlL B (lv_args i vs)
  | [], _ => rfl
  | v :: vs, i => by
    show (i, ab_rl B v) :: lv_args (if (ab_rl B v).category = 2 then i + 2 else i + 1) (vs.map (ab_rl B)) = (i, ab_rl B v) :: ab_rlL B _
    rw [ab_rl_cat, ab_args_rl B vs]
theorem ab_sl_rl (B : Nat × (Nat → Nat)) : ∀ vs : List Value, (lg_sl (vs.map (ab_rl B))).length = (lg_sl vs).length
  | [] => rfl
  | v :: vs => by
    have ih := ab_sl_rl B vs
    unfold lg_sl at ih ⊢
    rw [List.map_cons, List.flatMap_cons, List.flatMap_cons, List.length_append, List.length_append, ih, ab_rl_cat]
    congr 1
    split <;> rfl
theorem ab_cat_rl (B : Nat × (Nat → Nat)) (r : List Value) : ((r.map (ab_rl B)).map fun v => v.category).sum = ab_cat r := by
  unfold ab_cat
  rw [List.map_map]
  congr 1
  refine List.map_congr_left fun v _ => ?_
  exact ab_rl_cat B v
section AB8
variable {p : Program} {l : Launch} {e : Env} {R : Room} {s : State} {m : MethodId} {args : Array Value} {below : List Frame} {meth : Method} {c : Code} {H : Heap} {locs : List Loc} {cells slots : Nat} {Q : State → Prop}
variable {cc : ByteArray} {pc : Nat} {ls : Array Slot} {B : Nat × (Nat → Nat)} {D : va_G} {G : ab_G} {tys : List (ClassId × FieldType)} {cA : Nat → ClassId}
set_option maxHeartbeats 4000000 in
theorem ab_s8_ok (hx : p.tables.exec = Jvm.exec) (hb : c.code = cc) {own : String} {o : Nat} {TB : List Cond} (hts : ∀ w ∈ TB, w.before args s = true) (hown : s.vm.findClass own = some m.cls) (ho : ab_own G o own) (hX : ab_Xf B G TB s s.heap) (hS : va_S (fun q : Nat => B.1 ≤ q) s.heap H locs) {i : Instr} {k : Nat} {st st' : List Value} (hdg : decode cc pc = .ok (i, k)) (hs : ab_s8 (ab_gX G) o i k st = some st')
    (K : W p l e R s m args below meth c H locs cells slots Q (F0 m (pc + k) ls (st'.map (ab_rl B)))) : W p l e R s m args below meth c H locs cells slots Q (F0 m pc ls (st.map (ab_rl B))) := by
  obtain ⟨h1, h2, h3, h4, -⟩ := hX
  unfold ab_s8 at hs
  split at hs
  · obtain ⟨v, q1, q2⟩ := Option.map_eq_some_iff.mp hs
    cases q2
    obtain ⟨C, n, d, g1, g2⟩ := h1 _ _ ho _ _ q1
    exact va_gets hx hb g2 hS hown (hts _ g1) (fun _ z => z) hdg K
  · obtain ⟨fid, q1, q2⟩ := Option.bind_eq_some_iff.mp hs
    obtain ⟨v, q3, q4⟩ := Option.map_eq_some_iff.mp q2
    cases q4
    obtain ⟨C, n, d, g1, g2⟩ := h2 _ _ ho _ _ q1
    exact vk_getf hx hb (g2 _ _ q3) hS hown (hts _ g1) (fun _ z => z) hdg K
  · obtain ⟨⟨t, n, f⟩, q1, q2⟩ := Option.map_eq_some_iff.mp hs
    cases q2
    obtain ⟨ty, g1, g2⟩ := h3 _ _ _ _ q1
    exact va_tlen hx hb g2 hS rfl hdg K
  · obtain ⟨⟨t, n, f⟩, q1, q2⟩ := Option.bind_eq_some_iff.mp hs
    split at q2
    · rename_i q3
      obtain ⟨q4, q5⟩ := q3
      dsimp only at q4
      subst q4
      cases q2
      obtain ⟨ty, g1, g2⟩ := h3 _ _ _ _ q1
      cases g1
      exact va_ti hx hb g2 hS q5 rfl hdg K
    · cases q2
  · obtain ⟨⟨t, n, f⟩, q1, q2⟩ := Option.bind_eq_some_iff.mp hs
    split at q2
    · rename_i q3
      obtain ⟨q4, q5⟩ := q3
      dsimp only at q4
      subst q4
      cases q2
      obtain ⟨ty, g1, g2⟩ := h3 _ _ _ _ q1
      cases g1
      exact va_tl hx hb g2 hS q5 rfl hdg K
    · cases q2
  · obtain ⟨⟨t, n, f⟩, q1, q2⟩ := Option.bind_eq_some_iff.mp hs
    split at q2
    · rename_i q3
      obtain ⟨q4, q5⟩ := q3
      dsimp only at q4
      subst q4
      cases q2
      obtain ⟨ty, g1, g2⟩ := h3 _ _ _ _ q1
      cases g1
      exact va_tb hx hb g2 hS q5 rfl hdg K
    · cases q2
  · obtain ⟨j, q1, q2⟩ := Option.map_eq_some_iff.mp hs
    cases q2
    obtain ⟨tx, g1⟩ := h4 _ _ ho _ _ q1
    exact va_ldcS hx hb hown g1 hdg K
  · cases hs
set_option maxHeartbeats 4000000 in
theorem ab_cp_ok (hx : p.tables.exec = Jvm.exec) (hb : c.code = cc) (hml : c.maxLocals = ls.size) {own : String} {TB : List Cond} (hts : ∀ w ∈ TB, w.before args s = true) (hown : s.vm.findClass own = some m.cls) {oc : Nat → Option String} (hT : ab_Ty cA oc tys) (hK : va_K D (ab_gK G) tys s) {h h' : List ab_E} (hP : va_P D (ab_gK G) (ab_W B cA h) H) (hS0 : va_S (fun q : Nat => B.1 ≤ q) s.heap H locs) {index : Nat} {st st' : List Value} (hdg : decode cc pc = .ok (.invokestatic index, 3)) (hw : Cond.methodLink own index arraycopyName ∈ TB ∧ Cond.native arraycopyName ∈ TB ∧ Cond.static arraycopyName ∈ TB ∧ Cond.initialized "java/lang/System" ∈ TB) (hs : ab_cp h st = some (st', h')) (hR1 : 1 ≤ R.frames) (hR2 : 40 ≤ R.locals)
    (K : ∀ (H1 : Heap) (locs1 : List Loc), va_P D (ab_gK G) (ab_W B cA h') H1 → va_S (fun q : Nat => B.1 ≤ q) s.heap H1 locs1 → H.size ≤ H1.size → W p l e R s m args below meth c H1 locs1 cells slots Q (F0 m (pc + 3) ls (st'.map (ab_rl B)))) : W p l e R s m args below meth c H locs cells slots Q (F0 m pc ls (st.map (ab_rl B))) := by
  have hD := ab_D B cA h
  have hS : va_S (fun q : Nat => B.1 ≤ q) H H locs := ⟨Nat.le_refl _, fun _ _ _ => rfl, hS0.2.2⟩
  have hnw : nativeFrameWords "java/lang/System" "arraycopy" 5 + 11 ≤ 32 := by decide
  unfold ab_cp at hs
  split at hs
  · split at hs
    · cases hs
    · rename_i hneg
      simp only [not_or] at hneg
      obtain ⟨n1, n2, n3, n4⟩ := hneg
      have hlo : ∀ r : List Value, ab_cat r ≤ 8 → ((r.map (ab_rl B)).map fun v => v.category).sum + (nativeFrameWords "java/lang/System" "arraycopy" 5 + 11) ≤ R.locals := fun r hr => by rw [ab_cat_rl]; omega
      split at hs
      · rename_i q0 h0
        obtain ⟨f, h1, h2⟩ := Option.bind_eq_some_iff.mp hs
        split at h2
        · rename_i hq
          cases h2
          obtain ⟨j0, hj0⟩ := ab_W_at (B := B) (cA := cA) (ab_arI_eq h0) rfl
          obtain ⟨j1, hj1⟩ := ab_W_at (B := B) (cA := cA) (ab_arI_eq h1) rfl
          refine va_copyi hx hb hml hown (hts _ hw.1) (hts _ hw.2.1) (hts _ hw.2.2.1) (hts _ hw.2.2.2) hK hP hD hS j0 j1 0 0 hj0 hj1 hT.1 hT.1 rfl n3 n2 n1 hq.1 hq.2 (fun _ _ => rfl) hR1 (hlo _ (Nat.not_lt.mp n4)) hdg (fun H1 locs1 a1 a2 a3 => K H1 locs1 (ab_P_set hj1 (x' := _) (by show some (Sum.inl (cA _, ab_sA B.1 (.inl _))) = some (Sum.inl (cA _, _)); simp only [ab_sA, ab_lay_len, ab_lay_cpy _ _ _ hq.2]) a1) (ab_S_trans hS0 a3) a3.1)
        · cases h2
      · split at hs
        · rename_i q0 h0
          obtain ⟨f, h1, h2⟩ := Option.bind_eq_some_iff.mp hs
          split at h2
          · rename_i hq
            cases h2
            obtain ⟨j0, hj0⟩ := ab_W_at (B := B) (cA := cA) (ab_arL_eq h0) rfl
            obtain ⟨j1, hj1⟩ := ab_W_at (B := B) (cA := cA) (ab_arL_eq h1) rfl
            refine va_copyl hx hb hml hown (hts _ hw.1) (hts _ hw.2.1) (hts _ hw.2.2.1) (hts _ hw.2.2.2) hK hP hD hS j0 j1 1 1 hj0 hj1 hT.2.1 hT.2.1 rfl n3 n2 n1 hq.1 hq.2 (fun _ _ => rfl) hR1 (hlo _ (Nat.not_lt.mp n4)) hdg (fun H1 locs1 a1 a2 a3 => K H1 locs1 (ab_P_set hj1 (x' := _) (by show some (Sum.inl (cA _, ab_sA B.1 (.inr (.inl _)))) = some (Sum.inl (cA _, _)); simp only [ab_sA, ab_lay_len, ab_lay_cpy _ _ _ hq.2]) a1) (ab_S_trans hS0 a3) a3.1)
          · cases h2
        · obtain ⟨f0, h0, h3⟩ := Option.bind_eq_some_iff.mp hs
          obtain ⟨f, h1, h2⟩ := Option.bind_eq_some_iff.mp h3
          split at h2
          · rename_i hq
            cases h2
            obtain ⟨j0, hj0⟩ := ab_W_at (B := B) (cA := cA) (ab_arI_eq h0) rfl
            obtain ⟨j1, hj1⟩ := ab_W_at (B := B) (cA := cA) (ab_arI_eq h1) rfl
            refine va_copyi hx hb hml hown (hts _ hw.1) (hts _ hw.2.1) (hts _ hw.2.2.1) (hts _ hw.2.2.2) hK hP hD hS j0 j1 2 2 hj0 hj1 hT.2.2.1 hT.2.2.1 rfl n3 n2 n1 hq.1 hq.2.1 hq.2.2 hR1 (hlo _ (Nat.not_lt.mp n4)) hdg (fun H1 locs1 a1 a2 a3 => K H1 locs1 (ab_P_set hj1 (x' := _) (by show some (Sum.inl (cA _, ab_sA B.1 (.inl _))) = some (Sum.inl (cA _, _)); simp only [ab_sA, ab_lay_len, ab_lay_cpy _ _ _ hq.2.1]) a1) (ab_S_trans hS0 a3) a3.1)
          · cases h2
  · cases hs
/-- behind a call -/
theorem ab_behind {mc ms : Nat} {rest st0 : List Value} {a : Array Value} {r : Option Value} {h' : List ab_E} {rv : List Value} (hr : va_Run p l e R s m args below meth c H locs cells slots mc ms (F0 m pc ls st0) rest (ab_Qc B D G cA r h' a) (fun q : Nat => B.1 ≤ q)) (hS : va_S (fun q : Nat => B.1 ≤ q) s.heap H locs) (hrv : (r.map (ab_rl B)).toList ++ rest = rv)
    (K : ∀ (H1 : Heap) (locs1 : List Loc), va_P D (ab_gK G) (ab_W B cA h') H1 → va_S (fun q : Nat => B.1 ≤ q) s.heap H1 locs1 → H1.size = B.1 + h'.length → W p l e R s m args below meth c H1 locs1 (cells + mc) (slots + ms) Q (F0 m (pc + 3) ls rv)) : W p l e R s m args below meth c H locs cells slots Q (F0 m pc ls st0) := by
  intro T hT X
  obtain ⟨v, st₀, t, T', L, h0, X', hL, e1, e2, ⟨hv, hz, hP, hF⟩, st⟩ := hr T hT X
  cases hv
  subst hrv
  have hS1 : va_S (fun q : Nat => B.1 ≤ q) s.heap t.heap (locs ++ L) := by
    refine ⟨Nat.le_trans hS.1 (by rw [← h0]; exact hF.1), fun q h1 h2 => ?_, fun q hq => ?_⟩
    · rw [hF.2 q (by rw [h0]; exact Nat.lt_of_lt_of_le h1 hS.1) h2, h0]
      exact hS.2.1 q h1 h2
    · rcases List.mem_append.mp hq with z | z
      · exact hS.2.2 q z
      · exact hL q z
  obtain ⟨t2, a1, b1⟩ := K t.heap (locs ++ L) hP hS1 hz T' e1 X'
  exact ⟨t2, st t2 a1, b1⟩
end AB8

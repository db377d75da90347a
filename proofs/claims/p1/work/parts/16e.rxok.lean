/-! .. and the machine does so -/
/-- the tables of throws are right -/
def ab_OKt (G : ab_G) (T : ab_GT) (TB : List Cond) : Prop :=
  (∀ (y : Nat) (M : ab_MX), T.2.2.2 y = some M → (Cond.codeWith (ab_my M.1) (ab_mc M.1) (ab_mL M.1) (ab_mr M.1) M.2 ∈ TB ∧ plainName (ab_my M.1).cls = true ∧ ab_mL M.1 ≤ 21 ∧ ab_own G (ab_mo M.1) (ab_my M.1).cls) ∧ ab_mi M.1 = false ∧
    (ab_Fd (ab_my M.1).cls (ab_mi M.1) TB (ab_gK G) (ab_gF G (ab_mo M.1) (ab_mi M.1)) ∧ ab_Cd (ab_my M.1).cls TB (ab_gK G) (ab_gC G (ab_mo M.1)) ∧
    (∀ ix v, ab_gI G (ab_mo M.1) ix = some v → Cond.constant (ab_my M.1).cls ix v ∈ TB) ∧ (∀ ix v, ab_gL G (ab_mo M.1) ix = some v → Cond.constantLong (ab_my M.1).cls ix v ∈ TB)) ∧ ab_OKc G TB M.1) ∧
  (∀ (o : Nat) (own : String), ab_own G o own → ∀ ix sort y na ci : Nat, ab_gT G o ix = some (sort, y, na, ci) → ∀ M' : ab_MX, T.2.2.2 y = some M' → Cond.methodLink own ix (ab_my M'.1) ∈ TB ∧ Cond.initialized (ab_my M'.1).cls ∈ TB ∧ ((ab_my M'.1).cls ≠ "java/lang/invoke/MethodHandle" ∧ (ab_my M'.1).cls ≠ "java/lang/invoke/VarHandle" ∧ (parseMethodDescriptor (ab_my M'.1).desc).map (fun d => d.parameters.length) = some na) ∧
    (sort = 0 ∧ Cond.instanceMethod (ab_my M'.1) ∈ TB ∧ Cond.selects (ab_my M'.1).cls (ab_my M'.1) (ab_my M'.1) ∈ TB ∧ (∃ q : vw_C, (ab_gK G)[ci]? = some q ∧ q.1 = (ab_my M'.1).cls) ∨ sort = 1 ∧ Cond.static (ab_my M'.1) ∈ TB)) ∧
  (∀ (o : Nat) (own : String), ab_own G o own → ∀ (ct : Nat) (nm : String), T.2.1 o ct = some nm → Cond.classLink own ct nm ∈ TB)
/-- what throws need of what was there before -/
def ab_XT (B : Nat × (Nat → Nat)) (G : ab_G) (T : ab_GT) (TB : List Cond) (U : State) (H : Heap) : Prop :=
  (∀ E nm : String, T.2.2.1 E nm = some true → va_Nw (.castable E nm) U) ∧ (∀ E nm : String, T.2.2.1 E nm = some false → va_Nc E nm U) ∧
  (∀ (o : Nat) (own : String), ab_own G o own → ∀ (ik ic : Nat) (cls : String), T.1 o ik ic = some cls → ∃ names : List String, names.length ≤ 4 ∧ Bundle.fit cls = true ∧ (∀ n ∈ names, Bundle.fit n = true) ∧ Cond.classLink own ik cls ∈ TB ∧ Cond.initialized cls ∈ TB ∧ ∀ w ∈ vx_at0 own ic cls names, w ∈ TB ∨ (∃ C D : String, w = .castable C D ∧ va_Nw (.castable C D) U) ∨ ∃ x : MethodName, w = .declares x ∧ va_Nw (.declares x) U) ∧
  vx_Zq Bundle.tN "UNASSIGNED_STACK" Bundle.steD (fun q : Nat => B.1 ≤ q) U H ∧ vx_Zq Bundle.tN "SUPPRESSED_SENTINEL" Bundle.listD (fun q : Nat => B.1 ≤ q) U H
theorem ab_XT.to {B : Nat × (Nat → Nat)} {G : ab_G} {T : ab_GT} {TB : List Cond} {s U : State} {H0 H : Heap} (h : ab_XT B G T TB s H0) (hW : s.WarmedH U.vm) (hq : ∀ a : Nat, a < H0.size → ¬ B.1 ≤ a → H[a]? = H0[a]?) : ab_XT B G T TB U H := by
  obtain ⟨h1, h2, h3, h4, h5⟩ := h
  refine ⟨fun E nm he => (h1 E nm he).warmC hW, fun E nm he => va_Nc.moved hW.alike (h2 E nm he), fun o own ho ik ic cls hc => ?_, vx_Zq.moved hW.alike (h4.kept hq), vx_Zq.moved hW.alike (h5.kept hq)⟩
  obtain ⟨names, g1, g2, g3, g4, g5, g6⟩ := h3 o own ho ik ic cls hc
  refine ⟨names, g1, g2, g3, g4, g5, fun w hw => ?_⟩
  rcases g6 w hw with q | ⟨C, D, q1, q2⟩ | ⟨x, q1, q2⟩
  · exact Or.inl q
  · exact Or.inr (Or.inl ⟨C, D, q1, q2.warmC hW⟩)
  · exact Or.inr (Or.inr ⟨x, q1, q2.warmD hW⟩)
def ab_PX (B : Nat × (Nat → Nat)) (D : va_G) (G : ab_G) (T : ab_GT) (TB : List Cond) (cA : Nat → ClassId) (tys : List (ClassId × FieldType)) (As : List Value) (h : List ab_E) : Array Value → State → Prop := fun v U => ab_Pc B D G TB cA tys As h v U ∧ ab_XT B G T TB U U.heap
def ab_QX (B : Nat × (Nat → Nat)) (D : va_G) (G : ab_G) (cA : Nat → ClassId) (r : ab_RX) (h : List ab_E) : Array Value → State → Outcome → State → Prop := fun a st oc t => ∃ v, r = .inl v ∧ ab_Qc B D G cA v h a st oc t
def ab_XC (B : Nat × (Nat → Nat)) (D : va_G) (G : ab_G) (cA : Nat → ClassId) (r : ab_RX) (h : List ab_E) : String → Addr → State → State → Prop := fun E a st t => ∃ q, r = .inr (E, q) ∧ a = B.1 + q ∧ t.heap.size = B.1 + h.length ∧ va_P D (ab_gK G) (ab_W B cA h) t.heap ∧ va_F (fun q : Nat => B.1 ≤ q) st t
theorem ab_Wx_set {G : ab_G} {B : Nat × (Nat → Nat)} {D : va_G} {cA : Nat → ClassId} {h : List ab_E} {H1 : Heap} (hP : va_P D (ab_gK G) (ab_W B cA h) H1) (n : Nat) : va_P D (ab_gK G) (ab_W B cA (h ++ [.inl n])) H1 :=
  ab_P_push hP (fun _ hx => by cases hx)
section RXK
variable {p : Program} {l : Launch} {e : Env} {R : Room} {s : State} {m : MethodId} {args : Array Value} {below : List Frame} {meth : Method} {c : Code} {H : Heap} {locs : List Loc} {cells slots : Nat} {Q : State → Prop}
variable {pc : Nat} {ls : Array Slot} {B : Nat × (Nat → Nat)} {D : va_G} {G : ab_G} {T : ab_GT} {TB : List Cond} {tys : List (ClassId × FieldType)} {cA : Nat → ClassId} {M : ab_MI}
theorem ab_blindx (As : List Value) (h : List ab_E) : FrameBlind (ab_PX B D G T TB cA tys As h) := fun a U g mk q => ⟨ab_blind As h a U g mk q.1, q.2.to (U := U.calling g mk a) (State.WarmedH.refl U) (fun _ _ _ => rfl)⟩
theorem ab_athrow {cc : ByteArray} (hexec : p.tables.exec = Jvm.exec) (hb : c.code = cc) {a : Addr} {rest : List Value} (hdg : decode cc pc = .ok (.athrow, 1)) (k : vx_W p l e R s m args below meth c H locs cells slots Q (F0 m pc ls rest) a) : W p l e R s m args below meth c H locs cells slots Q (F0 m pc ls (.ref a :: rest)) := by
  subst hb
  intro T hT X
  obtain ⟨t, a1, b1⟩ := k T hT X
  refine ⟨t, ?_, b1⟩
  jvm_step X.here [hexec, hdg, athrow.wp_sem]
  exact a1
/-- the rows of a table ahead of the one that takes it -/
abbrev ab_pass (s : State) (args : Array Value) (own E : String) (pc : Nat) (z : ExceptionTableEntry) : Prop := covers z pc = false ∨ (z.catchType ≠ 0 ∧ ∃ nm : String, (Cond.classLink own z.catchType nm).before args s = true ∧ va_Nc E nm s)
theorem ab_hd_ok {own E : String} {o : Nat} (hl : ∀ (ct : Nat) (nm : String), T.2.1 o ct = some nm → (Cond.classLink own ct nm).before args s = true) (hT : ab_XT B G T TB s H) : ∀ (tb : ab_H) (q : Option Nat), ab_hd T o E pc tb = some q →
    match q with
    | none => ∀ z ∈ tableOf tb, ab_pass s args own E pc z
    | some hp => ∃ (pre : List ExceptionTableEntry) (x : ExceptionTableEntry) (suf : List ExceptionTableEntry), tableOf tb = pre ++ x :: suf ∧ (∀ z ∈ pre, ab_pass s args own E pc z) ∧ covers x pc = true ∧ x.handlerPc = hp ∧ (x.catchType = 0 ∨ (x.catchType ≠ 0 ∧ ∃ nm : String, (Cond.classLink own x.catchType nm).before args s = true ∧ (Cond.castable E nm).before args s = true))
  | [], q, h => by
    cases h
    intro z hz
    cases hz
  | (a, b, hp, ct) :: tb, q, h => by
    have e0 : tableOf ((a, b, hp, ct) :: tb) = (⟨a, b, hp, ct⟩ : ExceptionTableEntry) :: tableOf tb := rfl
    rw [e0]
    have skip : ∀ q, ab_pass s args own E pc ⟨a, b, hp, ct⟩ → ab_hd T o E pc tb = some q → match q with
      | none => ∀ z ∈ (⟨a, b, hp, ct⟩ : ExceptionTableEntry) :: tableOf tb, ab_pass s args own E pc z
      | some hp' => ∃ (pre : List ExceptionTableEntry) (x : ExceptionTableEntry) (suf : List ExceptionTableEntry), (⟨a, b, hp, ct⟩ : ExceptionTableEntry) :: tableOf tb = pre ++ x :: suf ∧ (∀ z ∈ pre, ab_pass s args own E pc z) ∧ covers x pc = true ∧ x.handlerPc = hp' ∧ (x.catchType = 0 ∨ (x.catchType ≠ 0 ∧ ∃ nm : String, (Cond.classLink own x.catchType nm).before args s = true ∧ (Cond.castable E nm).before args s = true)) := by
      intro q hp1 hq
      have ih := ab_hd_ok hl hT tb q hq
      cases q with
      | none =>
        intro z hz
        rcases List.mem_cons.mp hz with rfl | hz
        · exact hp1
        · exact ih z hz
      | some hp' =>
        obtain ⟨pre, x, suf, i1, i2, i3⟩ := ih
        refine ⟨_ :: pre, x, suf, by rw [i1]; rfl, fun z hz => ?_, i3⟩
        rcases List.mem_cons.mp hz with rfl | hz
        · exact hp1
        · exact i2 z hz
    unfold ab_hd at h
    split at h
    · rename_i hc
      have hcov : covers (⟨a, b, hp, ct⟩ : ExceptionTableEntry) pc = true := by
        show (decide (a ≤ pc) && decide (pc < b)) = true
        rw [decide_eq_true hc.1, decide_eq_true hc.2]
        rfl
      split at h
      · rename_i h0
        cases h
        exact ⟨[], _, tableOf tb, rfl, fun z hz => absurd hz List.not_mem_nil, hcov, rfl, Or.inl h0⟩
      · rename_i h0
        split at h
        · cases h
        · rename_i nm hnm
          split at h
          · rename_i hca
            cases h
            exact ⟨[], _, tableOf tb, rfl, fun z hz => absurd hz List.not_mem_nil, hcov, rfl, Or.inr ⟨h0, nm, hl _ _ hnm, va_Nw.use rfl (hT.1 _ _ hca)⟩⟩
          · rename_i hca
            exact skip q (Or.inr ⟨h0, nm, hl _ _ hnm, hT.2.1 _ _ hca⟩) h
          · cases h
    · rename_i hc
      refine skip q (Or.inl ?_) h
      show (decide (a ≤ pc) && decide (pc < b)) = false
      rw [Bool.and_eq_false_iff, decide_eq_false_iff_not, decide_eq_false_iff_not]
      by_cases g : a ≤ pc
      · exact Or.inr fun z => hc ⟨g, z⟩
      · exact Or.inl g
/-- caught here -/
theorem ab_caught {own E : String} {ce : Cell} {q : Addr} {rest : List Value} (hown : s.vm.findClass own = some m.cls) {hp : Nat} {pre : List ExceptionTableEntry} {x : ExceptionTableEntry} {suf : List ExceptionTableEntry} (hsplit : c.exceptionTable.toList = pre ++ x :: suf) (hpass : ∀ z ∈ pre, ab_pass s args own E pc z) (hx : covers x pc = true) (hh : x.handlerPc = hp)
    (hcat : x.catchType = 0 ∨ (x.catchType ≠ 0 ∧ ∃ nm : String, (Cond.classLink own x.catchType nm).before args s = true ∧ (Cond.castable E nm).before args s = true)) (hcell : H[q]? = some ce) (hv : ce.vm = .none) (hcl : s.vm.findClass E = some ce.cls)
    (kk : W p l e R s m args below meth c H locs cells slots Q (F0 m hp ls [.ref q])) : vx_W p l e R s m args below meth c H locs cells slots Q (F0 m pc ls rest) q := by
  subst hh
  rcases hcat with h0 | ⟨h0, nm, hl, hca⟩
  · intro T hT X
    have hpl : e.platform.magicAccessors = ({} : Platform).magicAccessors := by rw [X.admits.platform]
    obtain ⟨vm', X', st⟩ := X.thenCaughtThrough q (g := F0 m pc ls rest) rfl (Steps.refl _) (by rw [hT]; exact hcell) (by rw [hv]; rfl) (by obtain ⟨k9, h9, -⟩ := Vm.findClass_spec hcl; exact ⟨k9, h9⟩) pre x suf hsplit
      (fun z hz => by
        rcases hpass z hz with h | ⟨hz0, nm, hl1, hn1⟩
        · exact Or.inl h
        · obtain ⟨c6, hc6, hcl6⟩ := Cond.classLink_spec hown hl1 e.platform hpl
          obtain ⟨a8, b8, h1, h2, h3⟩ := hn1
          cases Option.some.inj (h1.symm.trans hcl)
          cases Option.some.inj (h2.symm.trans hc6)
          exact Or.inr ⟨hz0, _, hcl6, h3⟩) hx (Or.inl h0)
    obtain ⟨t, a1, b1⟩ := kk (T.setVm vm') hT X'
    exact ⟨t, st.trans a1, b1⟩
  · exact vx_catch hown pre x suf hsplit hpass hx h0 hl hca hcell hv hcl kk
/-- behind a call that returns or throws -/
theorem ab_behx {mc ms : Nat} {rest st0 : List Value} {a : Array Value} {r : ab_RX} {h' : List ab_E} (hr : vx_Run p l e R s m args below meth c H locs cells slots mc ms (F0 m pc ls st0) rest (ab_QX B D G cA r h' a) (ab_XC B D G cA r h') (fun q : Nat => B.1 ≤ q)) (hS : va_S (fun q : Nat => B.1 ≤ q) s.heap H locs)
    (K : ∀ v, r = .inl v → ∀ (H1 : Heap) (locs1 : List Loc), va_P D (ab_gK G) (ab_W B cA h') H1 → va_S (fun q : Nat => B.1 ≤ q) s.heap H1 locs1 → H1.size = B.1 + h'.length → W p l e R s m args below meth c H1 locs1 (cells + mc) (slots + ms) Q (F0 m (pc + 3) ls ((v.map (ab_rl B)).toList ++ rest)))
    (KX : ∀ E q, r = .inr (E, q) → ∀ (H1 : Heap) (locs1 : List Loc) (ce : Cell), va_P D (ab_gK G) (ab_W B cA h') H1 → va_S (fun q : Nat => B.1 ≤ q) s.heap H1 locs1 → H1.size = B.1 + h'.length → H1[B.1 + q]? = some ce → ce.vm = .none → s.vm.findClass E = some ce.cls → vx_W p l e R s m args below meth c H1 locs1 (cells + mc) (slots + ms) Q (F0 m pc ls rest) (B.1 + q)) : W p l e R s m args below meth c H locs cells slots Q (F0 m pc ls st0) := by
  have hS1 : ∀ (st₀ t : State) (L : List Loc), st₀.heap = H → (∀ q ∈ L, (fun q : Nat => B.1 ≤ q) q.base) → va_F (fun q : Nat => B.1 ≤ q) st₀ t → va_S (fun q : Nat => B.1 ≤ q) s.heap t.heap (locs ++ L) := by
    intro st₀ t L h0 hL hF
    refine ⟨Nat.le_trans hS.1 (by rw [← h0]; exact hF.1), fun q h1 h2 => ?_, fun q hq => ?_⟩
    · rw [hF.2 q (by rw [h0]; exact Nat.lt_of_lt_of_le h1 hS.1) h2, h0]
      exact hS.2.1 q h1 h2
    · rcases List.mem_append.mp hq with z | z
      · exact hS.2.2 q z
      · exact hL q z
  intro T hT X
  rcases hr T hT X with ⟨v, st₀, t, T', L, h0, X', hL, e1, e2, ⟨v1, hv1, hv, hz, hP, hF⟩, st⟩ | ⟨q, st₀, t, T', L, E, ce, h0, X', hL, e1, e2, ⟨q1, hq1, hq2, hz, hP, hF⟩, c1, c2, c3, st⟩
  · cases hv
    obtain ⟨t2, a1, b1⟩ := K v1 hv1 t.heap (locs ++ L) hP (hS1 st₀ t L h0 hL hF) hz T' e1 X'
    exact ⟨t2, st t2 a1, b1⟩
  · subst hq2
    obtain ⟨t2, a1, b1⟩ := KX E q1 hq1 t.heap (locs ++ L) ce hP (hS1 st₀ t L h0 hL hF) hz c1 c2 c3 T' e1 X'
    exact ⟨t2, st.trans a1, b1⟩
end RXK

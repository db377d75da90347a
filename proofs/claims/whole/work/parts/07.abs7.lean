/-! the tie: what an abstract run says, the machine does -/
def ab_good (w : Cond) : Prop := (w.onTables && w.keeps) = true ∨ ∃ ty, w = .arrayClass ty
/-- the tables are right: every word that they need stands among TB -/
def ab_OKm (G : ab_G) (TB : List Cond) (M : ab_MI) : Prop :=
  Cond.code (ab_my M) (ab_mc M) (ab_mL M) (ab_mr M) ∈ TB ∧ plainName (ab_my M).cls = true ∧ ab_mL M ≤ 21 ∧ (ab_mi M = true → (ab_my M).name = "<init>") ∧
  ab_Fd (ab_my M).cls (ab_mi M) TB (ab_gK G) (ab_gF G (ab_mo M) (ab_mi M)) ∧ ab_Cd (ab_my M).cls TB (ab_gK G) (ab_gC G (ab_mo M)) ∧
  (∀ ix v, ab_gI G (ab_mo M) ix = some v → Cond.constant (ab_my M).cls ix v ∈ TB) ∧ (∀ ix v, ab_gL G (ab_mo M) ix = some v → Cond.constantLong (ab_my M).cls ix v ∈ TB)
def ab_OKc (G : ab_G) (TB : List Cond) (M : ab_MI) : Prop :=
  ∀ (ix sort y na ci : Nat), ab_gT G (ab_mo M) ix = some (sort, y, na, ci) →
    (sort = 4 → Cond.methodLink (ab_my M).cls ix objectInit ∈ TB ∧ Cond.instanceMethod objectInit ∈ TB ∧ Cond.code objectInit ⟨#[0xb1]⟩ 1 none ∈ TB) ∧
    (sort < 3 → ∀ M' : ab_MI, ab_gM G y = some M' → Cond.methodLink (ab_my M).cls ix (ab_my M') ∈ TB ∧ Cond.initialized (ab_my M').cls ∈ TB ∧ ((ab_my M').cls ≠ "java/lang/invoke/MethodHandle" ∧ (ab_my M').cls ≠ "java/lang/invoke/VarHandle" ∧ (parseMethodDescriptor (ab_my M').desc).map (fun d => d.parameters.length) = some na) ∧
      (sort = 0 → Cond.instanceMethod (ab_my M') ∈ TB ∧ Cond.selects (ab_my M').cls (ab_my M') (ab_my M') ∈ TB ∧ ∃ q : vw_C, (ab_gK G)[ci]? = some q ∧ q.1 = (ab_my M').cls) ∧
      (sort = 1 → Cond.static (ab_my M') ∈ TB) ∧
      (sort = 2 → (ab_my M').name = "<init>" ∧ Cond.instanceMethod (ab_my M') ∈ TB ∧ ab_mr M' = none))
def ab_OK (G : ab_G) (TB : List Cond) : Prop :=
  (∀ w ∈ TB, ab_good w) ∧ (∀ a q, ab_na a = some q → Cond.arrayClass q.2.1 ∈ TB) ∧ ∀ (y : Nat) (M : ab_MI), ab_gM G y = some M → ab_OKm G TB M ∧ ab_OKc G TB M
/-- the room of a run: frames d deep -/
abbrev ab_R (d mc ms : Nat) : Room := { frames := d, cells := mc, slots := ms, locals := 40 * d }
def ab_Pc (b : Nat) (D : va_G) (G : ab_G) (cA : Nat → ClassId) (tys : List (ClassId × FieldType)) (As : List Value) (h : List ab_E) : Array Value → State → Prop := fun v U =>
  v = (As.map (ab_rl b)).toArray ∧ U.heap.size = b + h.length ∧ va_P D (ab_gK G) (ab_W b cA h) U.heap ∧ va_K D (ab_gK G) tys U
def ab_Qc (b : Nat) (D : va_G) (G : ab_G) (cA : Nat → ClassId) (r : Option Value) (h : List ab_E) : Array Value → State → Outcome → State → Prop := fun _ st oc t =>
  oc = .returned (r.map (ab_rl b)) ∧ t.heap.size = b + h.length ∧ va_P D (ab_gK G) (ab_W b cA h) t.heap ∧ va_F (fun q : Nat => b ≤ q) st t
theorem ab_args_rl (b : Nat) : ∀ (vs : List Value) (i : Nat), lv_args i (vs.map (ab_rl b)) = ab_rlL b (lv_args i vs)
  | [], _ => rfl
  | v :: vs, i => by
    show (i, ab_rl b v) :: lv_args (if (ab_rl b v).category = 2 then i + 2 else i + 1) (vs.map (ab_rl b)) = (i, ab_rl b v) :: ab_rlL b _
    rw [ab_rl_cat, ab_args_rl b vs]
theorem ab_sl_rl (b : Nat) : ∀ vs : List Value, (lg_sl (vs.map (ab_rl b))).length = (lg_sl vs).length
  | [] => rfl
  | v :: vs => by
    have ih := ab_sl_rl b vs
    unfold lg_sl at ih ⊢
    rw [List.map_cons, List.flatMap_cons, List.flatMap_cons, List.length_append, List.length_append, ih, ab_rl_cat]
    congr 1
    split <;> rfl
theorem ab_cat_rl (b : Nat) (r : List Value) : ((r.map (ab_rl b)).map fun v => v.category).sum = ab_cat r := by
  unfold ab_cat
  rw [List.map_map]
  congr 1
  refine List.map_congr_left fun v _ => ?_
  exact ab_rl_cat b v
section AB8
variable {p : Program} {l : Launch} {e : Env} {R : Room} {s : State} {m : MethodId} {args : Array Value} {below : List Frame} {meth : Method} {c : Code} {H : Heap} {locs : List Loc} {cells slots : Nat} {Q : State → Prop}
variable {cc : ByteArray} {pc : Nat} {ls : Array Slot} {b : Nat} {D : va_G} {G : ab_G} {tys : List (ClassId × FieldType)} {cA : Nat → ClassId}
/-- behind a call -/
theorem ab_behind {mc ms : Nat} {rest st0 : List Value} {a : Array Value} {r : Option Value} {h' : List ab_E} {rv : List Value} (hr : va_Run p l e R s m args below meth c H locs cells slots mc ms (F0 m pc ls st0) rest (ab_Qc b D G cA r h' a) (fun q : Nat => b ≤ q)) (hS : va_S (fun q : Nat => b ≤ q) s.heap H locs) (hrv : (r.map (ab_rl b)).toList ++ rest = rv)
    (K : ∀ (H1 : Heap) (locs1 : List Loc), va_P D (ab_gK G) (ab_W b cA h') H1 → va_S (fun q : Nat => b ≤ q) s.heap H1 locs1 → H1.size = b + h'.length → W p l e R s m args below meth c H1 locs1 (cells + mc) (slots + ms) Q (F0 m (pc + 3) ls rv)) : W p l e R s m args below meth c H locs cells slots Q (F0 m pc ls st0) := by
  intro T hT X
  obtain ⟨v, st₀, t, T', L, h0, X', hL, e1, e2, ⟨hv, hz, hP, hF⟩, st⟩ := hr T hT X
  cases hv
  subst hrv
  have hS1 : va_S (fun q : Nat => b ≤ q) s.heap t.heap (locs ++ L) := by
    refine ⟨Nat.le_trans hS.1 (by rw [← h0]; exact hF.1), fun q h1 h2 => ?_, fun q hq => ?_⟩
    · rw [hF.2 q (by rw [h0]; exact Nat.lt_of_lt_of_le h1 hS.1) h2, h0]
      exact hS.2.1 q h1 h2
    · rcases List.mem_append.mp hq with z | z
      · exact hS.2.2 q z
      · exact hL q z
  obtain ⟨t2, a1, b1⟩ := K t.heap (locs ++ L) hP hS1 hz T' e1 X'
  exact ⟨t2, st t2 a1, b1⟩
end AB8

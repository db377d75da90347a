/-! CLOSEDNESS: a run makes no reference to what isn't there -/
def cfN (n k : Nat) : Nat := if k < n then k else k + 1
def FxH (f : Nat → Nat) (h : List ab_E) : Prop := ∀ e ∈ h, ab_rnE f e = e
theorem cf_lt {n k : Nat} (h : cfN n k = k) : k < n := by
  unfold cfN at h
  split at h
  · assumption
  · omega
theorem cf_id {n k : Nat} (h : k < n) : cfN n k = k := if_pos h
section CLO
variable {f g : Nat → Nat} {n : Nat}
theorem rn_ag (hg : ∀ k, k < n → f k = g k) {v : Value} (h : ab_rn (cfN n) v = v) : ab_rn f v = ab_rn g v := by
  cases v <;> first | rfl | skip
  rename_i k
  have e : cfN n k = k := by
    have := h
    injection this
  show Value.ref (f k) = Value.ref (g k)
  rw [hg k (cf_lt e)]
theorem map_ag {α : Type} {F F1 F2 : α → α} (hF : ∀ v, F v = v → F1 v = F2 v) : ∀ {st : List α}, st.map F = st → st.map F1 = st.map F2
  | [], _ => rfl
  | v :: st, h => by
    rw [List.map_cons] at h
    injection h with h1 h2
    rw [List.map_cons, List.map_cons, hF v h1, map_ag hF h2]
theorem on_ag (hg : ∀ k, k < n → f k = g k) {o : Option Nat} (h : o.map (cfN n) = o) : o.map f = o.map g := by
  cases o with
  | none => rfl
  | some k =>
    have e : cfN n k = k := by
      have := h
      injection this
    show some (f k) = some (g k)
    rw [hg k (cf_lt e)]
theorem rnE_ag (hg : ∀ k, k < n → f k = g k) {e : ab_E} (h : ab_rnE (cfN n) e = e) : ab_rnE f e = ab_rnE g e := by
  rcases e with m | ⟨t, l | l | l⟩ | ⟨ci, fs⟩
  · rfl
  · rfl
  · rfl
  · have h2 : l.map (Option.map (cfN n)) = l := by
      have h3 : (.inr (.inl (t, .inr (.inr (l.map (Option.map (cfN n)))))) : ab_E) = .inr (.inl (t, .inr (.inr l))) := h
      injection h3 with h3
      injection h3 with h3
      injection h3 with h4 h3
      injection h3 with h3
      injection h3
    show (.inr (.inl (t, .inr (.inr (l.map (Option.map f))))) : ab_E) = .inr (.inl (t, .inr (.inr (l.map (Option.map g)))))
    rw [map_ag (fun o ho => on_ag hg ho) h2]
  · have h2 : fs.map (ab_rn (cfN n)) = fs := by
      have h3 : (.inr (.inr (ci, fs.map (ab_rn (cfN n)))) : ab_E) = .inr (.inr (ci, fs)) := h
      injection h3 with h3
      injection h3 with h3
      injection h3 with h4 h3
    show (.inr (.inr (ci, fs.map (ab_rn f))) : ab_E) = .inr (.inr (ci, fs.map (ab_rn g)))
    rw [map_ag (fun v hv => rn_ag hg hv) h2]
theorem fxh_at {h : List ab_E} (hF : FxH f h) {a : Nat} {e : ab_E} (ha : h[a]? = some e) : ab_rnE f e = e := hF e (List.mem_of_getElem? ha)
theorem fx_ob {h : List ab_E} (hF : FxH f h) {a ci : Nat} {fs : List Value} (q : ab_obj h a ci = some fs) : fs.map (ab_rn f) = fs := by
  unfold ab_obj at q
  split at q
  · rename_i ha
    split at q
    · cases q
      have h3 := fxh_at hF ha
      unfold ab_rnE at h3
      injection h3 with h3
      injection h3 with h3
      injection h3 with h4 h3
    · cases q
  · cases q
theorem fx_ar {h : List ab_E} (hF : FxH f h) {a u : Nat} {l : List (Option Nat)} (q : ab_arR h a = some (u, l)) : l.map (Option.map f) = l := by
  have h3 := fxh_at hF (ab_arR_eq q).1
  unfold ab_rnE ab_rnV at h3
  injection h3 with h3
  injection h3 with h3
  injection h3 with h4 h3
  injection h3 with h3
  injection h3
theorem fx_st {h : List ab_E} (hF : FxH f h) {a : Nat} {e : ab_E} (he : ab_rnE f e = e) : FxH f (h.set a e) := fun x hx => by
  rcases List.mem_or_eq_of_mem_set hx with q | q
  · exact hF x q
  · rw [q]
    exact he
theorem fx_cons {v : Value} {st : List Value} (h : (v :: st).map (ab_rn f) = v :: st) : ab_rn f v = v ∧ st.map (ab_rn f) = st := by
  rw [List.map_cons] at h
  injection h with h1 h2
  exact ⟨h1, h2⟩
theorem fx_mk {v : Value} {st : List Value} (h1 : ab_rn f v = v) (h2 : st.map (ab_rn f) = st) : (v :: st).map (ab_rn f) = v :: st := by
  rw [List.map_cons, h1, h2]
theorem fx_get {α : Type} {F : α → α} {l : List α} (h : l.map F = l) {i : Nat} {v : α} (hv : l[i]? = some v) : F v = v := by
  have e : (l.map F)[i]? = l[i]? := by rw [h]
  rw [List.getElem?_map, hv] at e
  injection e
theorem fx_set {α : Type} {F : α → α} {l : List α} (h : l.map F = l) {i : Nat} {v : α} (hv : F v = v) : (l.set i v).map F = l.set i v := by
  rw [List.map_set, h, hv]
theorem fx_ref {k : Nat} (h : ab_rn f (.ref k) = .ref k) : f k = k := by
  unfold ab_rn at h
  injection h
theorem fx_s4 {fT : ab_FT} {oc : Nat → Option FieldType} {h : List ab_E} (hF : FxH f h) {i : Instr} {k : Nat} {st st' : List Value} (hq : st.map (ab_rn f) = st) (hs : ab_s4 fT oc h i k st = some st') : st'.map (ab_rn f) = st' := by
  unfold ab_s4 at hs
  split at hs
  · obtain ⟨q, g1, g2⟩ := Option.bind_eq_some_iff.mp hs
    obtain ⟨fs, g3, g4⟩ := Option.bind_eq_some_iff.mp g2
    obtain ⟨v, g5, g6⟩ := Option.map_eq_some_iff.mp g4
    cases g6
    exact fx_mk (fx_get (fx_ob hF g3) g5) (fx_cons hq).2
  · split at hs
    · split at hs
      · cases hs
        exact fx_mk rfl (fx_cons hq).2
      · cases hs
    · cases hs
  · obtain ⟨l, g1, g2⟩ := Option.bind_eq_some_iff.mp hs
    split at g2
    · cases g2
    · cases g2
      exact fx_mk rfl (fx_cons (fx_cons hq).2).2
  · obtain ⟨l, g1, g2⟩ := Option.bind_eq_some_iff.mp hs
    split at g2
    · cases g2
    · cases g2
      exact fx_mk rfl (fx_cons (fx_cons hq).2).2
  · split at hs
    · split at hs
      · cases hs
      · cases hs
        exact fx_mk rfl (fx_cons (fx_cons hq).2).2
    · obtain ⟨l, g1, g2⟩ := Option.bind_eq_some_iff.mp hs
      split at g2
      · cases g2
      · cases g2
        exact fx_mk rfl (fx_cons (fx_cons hq).2).2
  · obtain ⟨⟨u, l⟩, g1, g2⟩ := Option.bind_eq_some_iff.mp hs
    split at g2
    · cases g2
    · cases g2
      refine fx_mk ?_ (fx_cons (fx_cons hq).2).2
      have e := fx_ar hF g1
      rw [← ab_rf_rn, ← ab_getD_rn, e]
  · cases hs
theorem fx_s5 {fT : ab_FT} {oc : Nat → Option FieldType} {cl : List vw_C} {h h' : List ab_E} (hF : FxH f h) {i : Instr} {k : Nat} {st st' : List Value} (hq : st.map (ab_rn f) = st) (hs : ab_s5 fT oc cl h i k st = some (st', h')) : st'.map (ab_rn f) = st' ∧ FxH f h' := by
  unfold ab_s5 at hs
  split at hs
  · obtain ⟨q, g1, g2⟩ := Option.bind_eq_some_iff.mp hs
    obtain ⟨fs, g3, g4⟩ := Option.bind_eq_some_iff.mp g2
    split at g4
    · cases g4
      refine ⟨(fx_cons (fx_cons hq).2).2, fx_st hF ?_⟩
      show (.inr (.inr (_, _)) : ab_E) = _
      rw [fx_set (fx_ob hF g3) (fx_cons hq).1]
    · cases g4
  · obtain ⟨l, g1, g2⟩ := Option.bind_eq_some_iff.mp hs
    split at g2
    · cases g2
    · cases g2
      exact ⟨(fx_cons (fx_cons (fx_cons hq).2).2).2, fx_st hF rfl⟩
  · obtain ⟨l, g1, g2⟩ := Option.bind_eq_some_iff.mp hs
    split at g2
    · cases g2
    · cases g2
      exact ⟨(fx_cons (fx_cons (fx_cons hq).2).2).2, fx_st hF rfl⟩
  · split at hs
    · split at hs
      · cases hs
      · cases hs
        exact ⟨(fx_cons (fx_cons (fx_cons hq).2).2).2, fx_st hF rfl⟩
    · obtain ⟨l, g1, g2⟩ := Option.bind_eq_some_iff.mp hs
      split at g2
      · cases g2
      · cases g2
        exact ⟨(fx_cons (fx_cons (fx_cons hq).2).2).2, fx_st hF rfl⟩
  · obtain ⟨⟨u, l⟩, g1, g2⟩ := Option.bind_eq_some_iff.mp hs
    split at g2
    · split at g2
      · cases g2
      · split at g2
        · cases g2
          refine ⟨(fx_cons (fx_cons (fx_cons hq).2).2).2, fx_st hF ?_⟩
          show (.inr (.inl (_, .inr (.inr _))) : ab_E) = _
          rw [fx_set (fx_ar hF g1) (by show some _ = some _; rw [fx_ref (fx_cons hq).1])]
        · cases g2
    · cases g2
  · cases hs
theorem fx_s9 {X : ab_X} {oc : Nat → Option FieldType} {o pc t : Nat} {h h' : List ab_E} (hF : FxH f h) {i : Instr} {k : Nat} {st st' : List Value} (hq : st.map (ab_rn f) = st) (hs : ab_s9 X oc o h i k pc st = some (t, st', h')) : st'.map (ab_rn f) = st' ∧ FxH f h' := by
  unfold ab_s9 at hs
  split at hs
  · obtain ⟨b, g1, g2⟩ := Option.bind_eq_some_iff.mp hs
    obtain ⟨u, g3, g4⟩ := Option.bind_eq_some_iff.mp g2
    split at g4 <;> (cases g4; exact ⟨(fx_cons (fx_cons hq).2).2, hF⟩)
  · obtain ⟨b, g1, g2⟩ := Option.bind_eq_some_iff.mp hs
    obtain ⟨u, g3, g4⟩ := Option.bind_eq_some_iff.mp g2
    split at g4 <;> (cases g4; exact ⟨(fx_cons (fx_cons hq).2).2, hF⟩)
  · split at hs
    · cases hs
      exact ⟨(fx_cons hq).2, hF⟩
    · cases hs
  · split at hs
    · cases hs
    · obtain ⟨j, g1, g2⟩ := Option.map_eq_some_iff.mp hs
      cases g2
      exact ⟨fx_mk rfl hq, hF⟩
  · split at hs
    · split at hs
      · cases hs
        exact ⟨hq, hF⟩
      · cases hs
    · cases hs
  · cases hs
    exact ⟨hq, hF⟩
  · split at hs
    · cases hs
      exact ⟨hq, hF⟩
    · cases hs
  · split at hs
    · cases hs
      exact ⟨fx_mk rfl (fx_cons hq).2, hF⟩
    · cases hs
  · cases hs
    exact ⟨fx_mk rfl (fx_cons hq).2, hF⟩
  · obtain ⟨⟨u, l⟩, g1, g2⟩ := Option.bind_eq_some_iff.mp hs
    split at g2
    · split at g2
      · cases g2
      · split at g2
        · cases g2
          refine ⟨(fx_cons (fx_cons (fx_cons hq).2).2).2, fx_st hF ?_⟩
          show (.inr (.inl (_, .inr (.inr _))) : ab_E) = _
          rw [fx_set (fx_ar hF g1) (by show some _ = some _; rw [fx_ref (fx_cons hq).1])]
        · cases g2
    · cases g2
  · obtain ⟨⟨u, l⟩, g1, g2⟩ := Option.bind_eq_some_iff.mp hs
    split at g2
    · cases g2
    · split at g2
      · cases g2
        refine ⟨(fx_cons (fx_cons (fx_cons hq).2).2).2, fx_st hF ?_⟩
        show (.inr (.inl (_, .inr (.inr _))) : ab_E) = _
        rw [fx_set (fx_ar hF g1) rfl]
      · cases g2
  · cases hs
theorem fx_cnt : ∀ {d : Nat} {st r : List Value} {ns : List Int32}, st.map (ab_rn f) = st → ab_cnt d st = some (ns, r) → r.map (ab_rn f) = r := fun {d} {st} {r} {ns} hq hs => by
  have e := ab_cnt_rn (f := f) hs
  rw [hq, hs] at e
  injection e with e
  injection e with e1 e2
  exact e2.symm
theorem mkz_pos : ∀ (n : Nat) (ns : List Nat), 1 ≤ ab_mkz (n :: ns)
  | n, [] => by unfold ab_mkz; omega
  | n, m :: ns => by unfold ab_mkz; omega
theorem fx_mks {N : Nat} (hf : ∀ k, k < N → f k = k) : ∀ (ks ns : List Nat) (b : Nat), ks.length = ns.length → b + ab_mkz ns ≤ N → FxH f (ab_mk ks ns b)
  | [k], [n], b, hl, hb => by
    intro e he
    have e1 : e = (.inr (.inl (k, ab_d0 k n)) : ab_E) := by
      have h2 : e ∈ [(.inr (.inl (k, ab_d0 k n)) : ab_E)] := he
      exact List.mem_singleton.mp h2
    rw [e1]
    show (.inr (.inl (k, ab_rnV f (ab_d0 k n))) : ab_E) = _
    rw [ab_d0_rn]
  | k :: k' :: ks, n :: n' :: ns, b, hl, hb => by
    intro e he
    have hz : ab_mkz (n :: n' :: ns) = 1 + n * ab_mkz (n' :: ns) := rfl
    have hp := mkz_pos n' ns
    generalize hZ : ab_mkz (n' :: ns) = z at hz hp
    rw [hz] at hb
    have hi : ∀ i, i < n → i * z + z ≤ n * z := fun i h => by
      have := Nat.mul_le_mul_right z (show i + 1 ≤ n from h)
      rw [Nat.add_mul, Nat.one_mul] at this
      exact this
    rw [show ab_mk (k :: k' :: ks) (n :: n' :: ns) b = .inr (.inl (k, .inr (.inr ((List.range n).map (fun i => some (b + 1 + i * ab_mkz (n' :: ns))))))) :: (List.range n).flatMap (fun i => ab_mk (k' :: ks) (n' :: ns) (b + 1 + i * ab_mkz (n' :: ns))) from rfl, hZ] at he
    rcases List.mem_cons.mp he with q | q
    · rw [q]
      show (.inr (.inl (k, .inr (.inr (((List.range n).map (fun i => some (b + 1 + i * z))).map (Option.map f))))) : ab_E) = _
      rw [List.map_map]
      have e2 : (List.range n).map (Option.map f ∘ fun i => some (b + 1 + i * z)) = (List.range n).map (fun i => some (b + 1 + i * z)) := List.map_congr_left fun i him => by
        show some (f (b + 1 + i * z)) = _
        have := hi i (List.mem_range.mp him)
        rw [hf _ (by omega)]
      rw [e2]
    · obtain ⟨i, him, hie⟩ := List.mem_flatMap.mp q
      have := hi i (List.mem_range.mp him)
      exact fx_mks hf (k' :: ks) (n' :: ns) _ (by simpa using hl) (by rw [hZ]; omega) e hie
  | [], _, _, _, _ => by
    intro e he
    simp [ab_mk] at he
  | [_], [], _, _, _ => by
    intro e he
    simp [ab_mk] at he
  | [_], _ :: _ :: _, _, hl, _ => by simp at hl
  | _ :: _ :: _, [], _, hl, _ => by simp at hl
  | _ :: _ :: _, [_], _, hl, _ => by simp at hl
theorem fx_lay {l0 l : List (Option Nat)} {sp dp n : Nat} (h0 : l0.map (Option.map f) = l0) (h1 : l.map (Option.map f) = l) : (ab_lay l0 l none sp dp n).map (Option.map f) = ab_lay l0 l none sp dp n := by
  rw [ab_lay_map, h0, h1]
theorem fx_app {h x : List ab_E} (h1 : FxH f h) (h2 : FxH f x) : FxH f (h ++ x) := fun e he => (List.mem_append.mp he).elim (h1 e) (h2 e)
theorem cnt_len : ∀ {d : Nat} {st r : List Value} {ns : List Int32}, ab_cnt d st = some (ns, r) → ns.length = d
  | 0, st, r, ns, hs => by
    cases hs
    rfl
  | d + 1, [], r, ns, hs => by cases hs
  | d + 1, v :: st, r, ns, hs => by
    cases v <;> first | (cases hs; done) | skip
    obtain ⟨⟨ns', r'⟩, q1, q2⟩ := Option.map_eq_some_iff.mp hs
    cases q2
    rw [List.length_append, cnt_len q1]
    rfl
theorem fx_s10 {N : Nat} (hf : ∀ k, k < N → f k = k) {X : ab_X} {o : Nat} {h xs : List ab_E} {i : Instr} {k : Nat} {st st' : List Value} (hq : st.map (ab_rn f) = st) (hs : ab_s10 X o h i k st = some (st', xs)) (hN : h.length + xs.length ≤ N) : st'.map (ab_rn f) = st' ∧ FxH f xs := by
  unfold ab_s10 at hs
  split at hs
  · obtain ⟨q, g1, g2⟩ := Option.bind_eq_some_iff.mp hs
    split at g2
    · cases g2
    · cases g2
      refine ⟨fx_mk (by show Value.ref (f h.length) = _; rw [hf _ (by simp at hN; omega)]) (fx_cons hq).2, fun e he => ?_⟩
      rw [List.mem_singleton.mp he]
      show (.inr (.inl (_, .inr (.inr ((List.replicate _ none).map (Option.map f))))) : ab_E) = _
      rw [List.map_replicate]
      rfl
  · obtain ⟨ks, g1, g2⟩ := Option.bind_eq_some_iff.mp hs
    obtain ⟨⟨ns, r⟩, g3, g4⟩ := Option.bind_eq_some_iff.mp g2
    split at g4
    · rename_i hc
      cases g4
      have hl := cnt_len g3
      have hl2 : ks.length = (ns.map (fun n => n.toNatClampNeg)).length := by
        rw [List.length_map, hl]
        exact hc.1
      have e1 := ab_mk_len ks (ns.map (fun n => n.toNatClampNeg)) h.length hl2
      dsimp only at hN ⊢
      rw [e1] at hN
      have hp : 1 ≤ ab_mkz (ns.map (fun n => n.toNatClampNeg)) := by
        have h0 := hc.2.1
        cases ns with
        | nil =>
          rw [List.length_nil] at hl
          omega
        | cons a ns => exact mkz_pos _ _
      exact ⟨fx_mk (by show Value.ref (f h.length) = _; rw [hf _ (by omega)]) (fx_cnt hq g3), fx_mks hf _ _ _ hl2 (by omega)⟩
    · cases g4
  · cases hs
theorem fx_s6 {cT : ab_CT} (hC : ∀ ix q, cT ix = some q → q.2.map (ab_rn f) = q.2) {h : List ab_E} {i : Instr} {k : Nat} {st st' : List Value} {x : ab_E} (hl : f h.length = h.length) (hq : st.map (ab_rn f) = st) (hs : ab_s6 cT h i k st = some (st', x)) : st'.map (ab_rn f) = st' ∧ ab_rnE f x = x := by
  unfold ab_s6 at hs
  split at hs
  · obtain ⟨q, g1, g2⟩ := Option.map_eq_some_iff.mp hs
    cases g2
    refine ⟨fx_mk (by show Value.ref (f h.length) = _; rw [hl]) hq, ?_⟩
    show (.inr (.inr (q.1, q.2.map (ab_rn f))) : ab_E) = _
    rw [hC _ _ g1]
  · obtain ⟨q, g1, g2⟩ := Option.bind_eq_some_iff.mp hs
    split at g2
    · cases g2
    · cases g2
      exact ⟨fx_mk (by show Value.ref (f h.length) = _; rw [hl]) (fx_cons hq).2, ab_na_rn g1 _⟩
  · cases hs
theorem fx_cp {h h' : List ab_E} (hF : FxH f h) {st st' : List Value} (hq : st.map (ab_rn f) = st) (hs : ab_cp h st = some (st', h')) : st'.map (ab_rn f) = st' ∧ FxH f h' := by
  unfold ab_cp at hs
  split at hs
  · have h5 := (fx_cons (fx_cons (fx_cons (fx_cons (fx_cons hq).2).2).2).2).2
    split at hs
    · cases hs
    · split at hs
      · obtain ⟨q, g1, g2⟩ := Option.bind_eq_some_iff.mp hs
        split at g2
        · cases g2
          exact ⟨h5, fx_st hF rfl⟩
        · cases g2
      · split at hs
        · obtain ⟨q, g1, g2⟩ := Option.bind_eq_some_iff.mp hs
          split at g2
          · cases g2
            exact ⟨h5, fx_st hF rfl⟩
          · cases g2
        · obtain ⟨q0, g0, g9⟩ := Option.bind_eq_some_iff.mp hs
          obtain ⟨q, g1, g2⟩ := Option.bind_eq_some_iff.mp g9
          split at g2
          · cases g2
            exact ⟨h5, fx_st hF rfl⟩
          · cases g2
  · cases hs
theorem fx_cq {X : ab_X} {oc : Nat → Option FieldType} {h h' : List ab_E} (hF : FxH f h) {st st' : List Value} (hq : st.map (ab_rn f) = st) (hs : ab_cq X oc h st = some (st', h')) : st'.map (ab_rn f) = st' ∧ FxH f h' := by
  unfold ab_cq at hs
  split at hs
  · have h5 := (fx_cons (fx_cons (fx_cons (fx_cons (fx_cons hq).2).2).2).2).2
    split at hs
    · cases hs
    · obtain ⟨⟨u0, f0⟩, g0, g3⟩ := Option.bind_eq_some_iff.mp hs
      obtain ⟨⟨u, f1⟩, g1, g2⟩ := Option.bind_eq_some_iff.mp g3
      split at g2
      · cases g2
        refine ⟨h5, fx_st hF ?_⟩
        show (.inr (.inl (_, .inr (.inr _))) : ab_E) = _
        rw [fx_lay (fx_ar hF g0) (fx_ar hF g1)]
      · cases g2
  · cases hs
theorem fx_mI {st r : List Value} {x y : Int32} (hq : st.map (ab_rn f) = st) (h : ab_mI st = some (x, y, r)) : r.map (ab_rn f) = r := by
  obtain ⟨rfl, hc⟩ := ab_mI_eq h
  exact (fx_cons (fx_cons hq).2).2
theorem fx_mJ {st r : List Value} {x y : Int64} (hq : st.map (ab_rn f) = st) (h : ab_mJ st = some (x, y, r)) : r.map (ab_rn f) = r := by
  obtain ⟨rfl, hc⟩ := ab_mJ_eq h
  exact (fx_cons (fx_cons hq).2).2
theorem fx_cpy {G : ab_G} {o : Nat} {h h' : List ab_E} (hF : FxH f h) {i : Instr} {k : Nat} {st st' : List Value} (hq : st.map (ab_rn f) = st) (hs : ab_cpy G o h i k st = some (st', h')) : st'.map (ab_rn f) = st' ∧ FxH f h' := by
  unfold ab_cpy at hs
  split at hs
  · split at hs
    · split at hs
      · rename_i h9
        cases hs
        exact fx_cp hF hq h9
      · exact fx_cq hF hq hs
    · obtain ⟨⟨x9, y9, r9⟩, g1, g2⟩ := Option.bind_eq_some_iff.mp hs
      cases g2
      exact ⟨fx_mk rfl (fx_mI hq g1), hF⟩
    · obtain ⟨⟨x9, y9, r9⟩, g1, g2⟩ := Option.bind_eq_some_iff.mp hs
      cases g2
      exact ⟨fx_mk rfl (fx_mI hq g1), hF⟩
    · obtain ⟨⟨x9, y9, r9⟩, g1, g2⟩ := Option.bind_eq_some_iff.mp hs
      cases g2
      exact ⟨fx_mk rfl (fx_mJ hq g1), hF⟩
    · cases hs
  · split at hs
    · split at hs
      · split at hs
        · cases hs
          exact ⟨fx_mk rfl (fx_cons hq).2, hF⟩
        · cases hs
      · cases hs
    · cases hs
  · cases hs
theorem fx_tk {α : Type} {F : α → α} {st : List α} (h : st.map F = st) (n : Nat) : (st.take n).map F = st.take n ∧ (st.drop n).map F = st.drop n := ⟨by rw [List.map_take, h], by rw [List.map_drop, h]⟩
theorem fx_rv {α : Type} {F : α → α} {st : List α} (h : st.map F = st) (n : Nat) : ((st.take n).reverse).map F = (st.take n).reverse := by rw [List.map_reverse, (fx_tk h n).1]
theorem fx_call {G : ab_G} {o : Nat} {h : List ab_E} {i : Instr} {k y : Nat} {st As r : List Value} (hq : st.map (ab_rn f) = st) (hs : ab_call G o h i k st = some (y, As, r)) : As.map (ab_rn f) = As ∧ r.map (ab_rn f) = r := by
  unfold ab_call at hs
  have hd : ∀ {n : Nat} {a : Value} {r : List Value}, st.drop n = a :: r → (a :: (st.take n).reverse).map (ab_rn f) = a :: (st.take n).reverse ∧ r.map (ab_rn f) = r := fun {n a r} e => by
    have h2 := (fx_tk hq n).2
    rw [e] at h2
    exact ⟨fx_mk (fx_cons h2).1 (fx_rv hq n), (fx_cons h2).2⟩
  split at hs
  · split at hs
    · split at hs
      · cases hs
        exact ⟨fx_rv hq _, (fx_tk hq _).2⟩
      · cases hs
    · cases hs
  · split at hs
    · split at hs
      · rename_i hst
        split at hs
        · split at hs
          · cases hs
            exact hd hst
          · cases hs
        · cases hs
      · cases hs
    · split at hs
      · rename_i hst
        split at hs
        · cases hs
          exact hd hst
        · cases hs
      · cases hs
    · cases hs
  · split at hs
    · split at hs
      · rename_i hst
        split at hs
        · cases hs
          exact hd hst
        · cases hs
      · cases hs
    · split at hs
      · rename_i hst
        split at hs
        · cases hs
          exact hd hst
        · cases hs
      · cases hs
    · cases hs
  · cases hs
theorem fx_step {G : ab_G} (hG : ab_pure G) {N : Nat} (hf : ∀ k, k < N → f k = k) {M : ab_MI} {h h1 : List ab_E} (hF : FxH f h) {i : Instr} {k pc pc' : Nat} {lv lv' : ab_L} {st st' : List Value} (hl : ab_rnL f lv = lv) (hq : st.map (ab_rn f) = st) (hs : ab_step G M i k pc lv st h = some (pc', lv', st', h1)) (hN : h1.length ≤ N) : ab_rnL f lv' = lv' ∧ st'.map (ab_rn f) = st' ∧ FxH f h1 := by
  obtain ⟨hC, hX1, hX2, hX3⟩ := hG f
  unfold ab_step at hs
  split at hs
  · rename_i g
    cases hs
    have e := ab_s1_rn (f := f) g
    rw [hq, g] at e
    injection e with e
    exact ⟨hl, e.symm, hF⟩
  · split at hs
    · rename_i g
      cases hs
      have e := ab_s2_rn (f := f) g
      rw [hq, hl, g] at e
      injection e with e
      injection e with e1 e2
      exact ⟨e1.symm, e2.symm, hF⟩
    · split at hs
      · rename_i g
        cases hs
        have e := ab_s3_rn (f := f) g
        rw [hq, g] at e
        injection e with e
        injection e with e1 e2
        exact ⟨hl, e2.symm, hF⟩
      · split at hs
        · rename_i g
          cases hs
          exact ⟨hl, fx_s4 hF hq g, hF⟩
        · split at hs
          · rename_i g
            cases hs
            exact ⟨hl, fx_s5 hF hq g⟩
          · split at hs
            · rename_i x9 g
              cases hs
              rw [List.length_append] at hN
              have e := fx_s6 (hC _) (hf h.length (by simp at hN; omega)) hq g
              exact ⟨hl, e.1, fx_app hF (fun z hz => by rw [List.mem_singleton.mp hz]; exact e.2)⟩
            · split at hs
              · rename_i g
                cases hs
                have e := ab_s7_rn (f := f) g
                rw [hq, g] at e
                injection e with e
                exact ⟨hl, e.symm, hF⟩
              · split at hs
                · rename_i g
                  cases hs
                  have e := ab_s8_rn (f := f) hX1 hX2 hX3 g
                  rw [hq, g] at e
                  injection e with e
                  exact ⟨hl, e.symm, hF⟩
                · split at hs
                  · rename_i g
                    cases hs
                    exact ⟨hl, fx_s9 hF hq g⟩
                  · split at hs
                    · rename_i g
                      cases hs
                      rw [List.length_append] at hN
                      have e := fx_s10 hf hq g hN
                      exact ⟨hl, e.1, fx_app hF e.2⟩
                    · cases hs
theorem fx_args {vs : List Value} (h : vs.map (ab_rn f) = vs) (i : Nat) : ab_rnL f (lv_args i vs) = lv_args i vs := by rw [← ab_args_rn, h]
/-- CLOSEDNESS of runs -/
theorem fx_rx {G : ab_G} (hG : ab_pure G) {T : ab_GT} {N : Nat} (hf : ∀ k, k < N → f k = k) : ∀ (n d : Nat) (M : ab_MX) (pc : Nat) (lv : ab_L) (st : List Value) (h h1 : List ab_E) (r : ab_RX), ab_rx G T n d M pc lv st h = some (r, h1) → h1.length ≤ N → ab_rnL f lv = lv → st.map (ab_rn f) = st → FxH f h → ab_rnR f r = r ∧ FxH f h1
  | 0, d, M, pc, lv, st, h, h1, r, hs, hN, hl, hq, hF => by cases hs
  | n + 1, d, M, pc, lv, st, h, h1, r, hs, hN, hl, hq, hF => by
    have hd : ∀ (d : Nat) (E : String) (q : Nat) (h2 : List ab_E), (match ab_hd T (ab_mo M.1) E pc M.2 with
        | some (some hp) => ab_rx G T n d M hp lv [.ref q] h2
        | some none => some (.inr (E, q), h2)
        | none => none) = some (r, h1) → FxH f h2 → f q = q → ab_rnR f r = r ∧ FxH f h1 := by
      intro d E q h2 hq he2 hfq
      split at hq
      · exact fx_rx hG hf n d M _ lv [.ref q] h2 h1 r hq hN hl (by show [Value.ref (f q)] = _; rw [hfq]) he2
      · cases hq
        refine ⟨?_, he2⟩
        show (.inr (E, f q) : ab_RX) = _
        rw [hfq]
      · cases hq
    unfold ab_rx at hs
    split at hs
    · cases hs
    · split at hs
      · rename_i g1
        have a2 := ab_rx_z n _ _ _ _ _ _ _ _ hs
        obtain ⟨e1, e2, e3⟩ := fx_step hG hf hF hl hq g1 (by omega)
        exact fx_rx hG hf n _ _ _ _ _ _ _ _ hs hN e1 e2 e3
      · split at hs
        · rename_i g1
          cases hs
          have e := ab_ret_rn (f := f) g1
          rw [hq, g1] at e
          injection e with e
          refine ⟨?_, hF⟩
          show (.inl (_) : ab_RX) = _
          rw [← e]
        · split at hs
          · cases hs
          · split at hs
            · rename_i g1
              have e := ab_obi_rn (f := f) g1
              rw [hq, g1] at e
              injection e with e
              exact fx_rx hG hf n _ _ _ _ _ _ _ _ hs hN hl e.symm hF
            · split at hs
              · rename_i g1
                obtain ⟨e1, e2⟩ := fx_cpy hF hq g1
                exact fx_rx hG hf n _ _ _ _ _ _ _ _ hs hN hl e1 e2
              · split at hs
                · rename_i g1
                  obtain ⟨e1, e2⟩ := fx_call hq g1
                  split at hs
                  · cases hs
                  · split at hs
                    · split at hs
                      · cases hs
                      · rename_i v h2 g2
                        have a2 := ab_rx_z n _ _ _ _ _ _ _ _ hs
                        obtain ⟨e3, e4⟩ := fx_rx hG hf n _ _ _ _ _ _ _ _ g2 (by omega) (fx_args e1 0) rfl hF
                        refine fx_rx hG hf n _ _ _ _ _ _ _ _ hs hN hl ?_ e4
                        rw [List.map_append, e2]
                        have e5 : v.map (ab_rn f) = v := by
                          have e6 : (.inl (v.map (ab_rn f)) : ab_RX) = .inl v := e3
                          injection e6
                        congr 1
                        cases v with
                        | none => rfl
                        | some w =>
                          injection e5 with e5
                          show [ab_rn f w] = [w]
                          rw [e5]
                      · rename_i E q h2 g2
                        split at hs
                        · cases hs
                        · have a2 : h2.length ≤ h1.length := by
                            split at hs
                            · exact (ab_rx_z n _ _ _ _ _ _ _ _ hs).1
                            · cases hs
                              exact Nat.le_refl _
                            · cases hs
                          obtain ⟨e3, e4⟩ := fx_rx hG hf n _ _ _ _ _ _ _ _ g2 (by omega) (fx_args e1 0) rfl hF
                          refine hd _ E q h2 hs e4 ?_
                          have e6 : (.inr (E, f q) : ab_RX) = .inr (E, q) := e3
                          injection e6 with e6
                          injection e6
                    · cases hs
                · split at hs
                  · rename_i E q g1
                    refine hd _ E q h hs hF ?_
                    unfold ab_ath at g1
                    split at g1
                    · split at g1
                      · obtain ⟨z, g3, g4⟩ := Option.map_eq_some_iff.mp g1
                        cases g4
                        exact fx_ref (fx_cons hq).1
                      · cases g1
                    · cases g1
                  · split at hs
                    · split at hs
                      · cases hs
                        rw [List.length_append] at hN
                        refine ⟨?_, fx_app hF (fun z hz => by rw [List.mem_singleton.mp hz]; rfl)⟩
                        show (.inr (_, f h.length) : ab_RX) = _
                        rw [hf _ (by simp at hN; omega)]
                      · cases hs
                    · cases hs
end CLO

/-- what the tables put into a run holds no places -/
def ab_pure (G : ab_G) : Prop := ∀ f : Nat → Nat, (∀ o ix q, ab_gC G o ix = some q → q.2.map (ab_rn f) = q.2) ∧ (∀ o ix v, (ab_gX G).1 o ix = some v → ab_rn f v = v) ∧ (∀ j fid v, (ab_gX G).2.2.1 j fid = some v → ab_rn f v = v) ∧ ∀ j q, (ab_gX G).2.2.2.1 j = some q → ∀ i, ab_rn f (q.2.2 i) = q.2.2 i
section RN
variable {f : Nat → Nat}
theorem ab_s1_rn {i : Instr} {k : Nat} {st st' : List Value} (h : ab_s1 i k st = some st') : ab_s1 i k (st.map (ab_rn f)) = some (st'.map (ab_rn f)) := by
  unfold ab_s1 at h
  split at h
  all_goals first | (cases h; rfl) | skip
  · split at h
    · cases h
    · rename_i hne
      cases h
      exact if_neg hne
  · split at h
    · cases h
    · rename_i hne
      cases h
      exact if_neg hne
  · split at h
    · rename_i hc
      cases h
      exact if_pos ((ab_rn_cat f _).trans hc)
    · cases h
  · split at h
    · rename_i hc
      cases h
      exact if_pos ((ab_rn_cat f _).trans hc)
    · cases h
  · split at h
    · rename_i hc
      cases h
      exact if_pos ⟨(ab_rn_cat f _).trans hc.1, (ab_rn_cat f _).trans hc.2⟩
    · cases h
  · split at h
    · rename_i hc
      cases h
      exact if_pos ⟨(ab_rn_cat f _).trans hc.1, (ab_rn_cat f _).trans hc.2⟩
    · cases h
  · cases h
theorem ab_s2_rn {nL : Nat} {i : Instr} {k : Nat} {lv lv' : ab_L} {st st' : List Value} (h : ab_s2 nL i k lv st = some (lv', st')) : ab_s2 nL i k (ab_rnL f lv) (st.map (ab_rn f)) = some (ab_rnL f lv', st'.map (ab_rn f)) := by
  unfold ab_s2 at h
  split at h
  · split at h
    · rename_i hv
      cases h
      show (match ab_at (ab_rnL f _) _ with
        | some (.int x) => _
        | _ => _) = _
      rw [ab_rnL_at, hv]
      rfl
    · cases h
  · split at h
    · rename_i hv
      cases h
      show (match ab_at (ab_rnL f _) _ with
        | some (.int x) => _
        | _ => _) = _
      rw [ab_rnL_at, hv]
      rfl
    · cases h
  · split at h
    · rename_i hv
      cases h
      show (match ab_at (ab_rnL f _) _ with
        | some (.long x) => _
        | _ => _) = _
      rw [ab_rnL_at, hv]
      rfl
    · cases h
  · split at h
    · rename_i hv
      cases h
      show (match ab_at (ab_rnL f _) _ with
        | some (.long x) => _
        | _ => _) = _
      rw [ab_rnL_at, hv]
      rfl
    · cases h
  · split at h
    · rename_i hv
      cases h
      show (match ab_at (ab_rnL f _) _ with
        | some (.ref x) => _
        | some .null => _
        | some (.retAddr x) => _
        | _ => _) = _
      rw [ab_rnL_at, hv]
      rfl
    · rename_i hv
      cases h
      show (match ab_at (ab_rnL f _) _ with
        | some (.ref x) => _
        | some .null => _
        | some (.retAddr x) => _
        | _ => _) = _
      rw [ab_rnL_at, hv]
      rfl
    · rename_i hv
      cases h
      show (match ab_at (ab_rnL f _) _ with
        | some (.ref x) => _
        | some .null => _
        | some (.retAddr x) => _
        | _ => _) = _
      rw [ab_rnL_at, hv]
      rfl
    · cases h
  · split at h
    · rename_i hv
      cases h
      show (match ab_at (ab_rnL f _) _ with
        | some (.ref x) => _
        | some .null => _
        | some (.retAddr x) => _
        | _ => _) = _
      rw [ab_rnL_at, hv]
      rfl
    · rename_i hv
      cases h
      show (match ab_at (ab_rnL f _) _ with
        | some (.ref x) => _
        | some .null => _
        | some (.retAddr x) => _
        | _ => _) = _
      rw [ab_rnL_at, hv]
      rfl
    · rename_i hv
      cases h
      show (match ab_at (ab_rnL f _) _ with
        | some (.ref x) => _
        | some .null => _
        | some (.retAddr x) => _
        | _ => _) = _
      rw [ab_rnL_at, hv]
      rfl
    · cases h
  · split at h
    · rename_i hn
      cases h
      exact (if_pos hn).trans (congrArg (fun z => some (z, _)) (ab_rnL_st1 f _ _ (.int _)))
    · cases h
  · split at h
    · rename_i hn
      cases h
      exact (if_pos hn).trans (congrArg (fun z => some (z, _)) (ab_rnL_st1 f _ _ (.int _)))
    · cases h
  · split at h
    · rename_i hn
      cases h
      exact (if_pos hn).trans (congrArg (fun z => some (z, _)) (ab_rnL_st2 f _ _ (.long _)))
    · cases h
  · split at h
    · rename_i hn
      cases h
      exact (if_pos hn).trans (congrArg (fun z => some (z, _)) (ab_rnL_st2 f _ _ (.long _)))
    · cases h
  · split at h
    · rename_i hn
      cases h
      exact (if_pos hn).trans (congrArg (fun z => some (z, _)) (ab_rnL_st1 f _ _ (.ref _)))
    · cases h
  · split at h
    · rename_i hn
      cases h
      exact (if_pos hn).trans (congrArg (fun z => some (z, _)) (ab_rnL_st1 f _ _ (.null)))
    · cases h
  · split at h
    · rename_i hn
      cases h
      exact (if_pos hn).trans (congrArg (fun z => some (z, _)) (ab_rnL_st1 f _ _ (.retAddr _)))
    · cases h
  · split at h
    · rename_i hn
      cases h
      exact (if_pos hn).trans (congrArg (fun z => some (z, _)) (ab_rnL_st1 f _ _ (.ref _)))
    · cases h
  · split at h
    · rename_i hn
      cases h
      exact (if_pos hn).trans (congrArg (fun z => some (z, _)) (ab_rnL_st1 f _ _ (.null)))
    · cases h
  · split at h
    · rename_i hn
      cases h
      exact (if_pos hn).trans (congrArg (fun z => some (z, _)) (ab_rnL_st1 f _ _ (.retAddr _)))
    · cases h
  · split at h
    · rename_i hv
      split at h
      · rename_i hn
        cases h
        show (match ab_at (ab_rnL f _) _ with
          | some (.int x) => _
          | _ => _) = _
        rw [ab_rnL_at, hv]
        exact (if_pos hn).trans (congrArg (fun z => some (z, _)) (ab_rnL_st1 f _ _ (.int _)))
      · cases h
    · cases h
  · cases h
theorem ab_tm_rn {pc t : Nat} {off : Int} {r st : List Value} (h : (ab_t pc off).map (fun t => (t, r)) = some (t, st)) : (ab_t pc off).map (fun t => (t, r.map (ab_rn f))) = some (t, st.map (ab_rn f)) := by
  obtain ⟨q, h1, h2⟩ := Option.map_eq_some_iff.mp h
  cases h2
  rw [h1]
  rfl
theorem ab_tb_rn {pc t : Nat} {off : Int} {c : Prop} [Decidable c] {r st : List Value} (h : (ab_t pc off).bind (fun t => if c then some (t, r) else some (pc + 3, r)) = some (t, st)) : (ab_t pc off).bind (fun t => if c then some (t, r.map (ab_rn f)) else some (pc + 3, r.map (ab_rn f))) = some (t, st.map (ab_rn f)) := by
  obtain ⟨q, h1, h2⟩ := Option.bind_eq_some_iff.mp h
  rw [h1]
  split at h2
  · rename_i hc
    cases h2
    exact if_pos hc
  · rename_i hc
    cases h2
    exact if_neg hc
theorem ab_s3_rn {i : Instr} {k pc t : Nat} {st st' : List Value} (h : ab_s3 i k pc st = some (t, st')) : ab_s3 i k pc (st.map (ab_rn f)) = some (t, st'.map (ab_rn f)) := by
  unfold ab_s3 at h
  split at h
  all_goals first | exact ab_tm_rn h | exact ab_tb_rn h | (cases h; rfl) | skip
  · split at h
    · rename_i hc
      exact (if_pos hc).trans (ab_tm_rn h)
    · rename_i hc
      split at h
      · rename_i ho
        refine (if_neg hc).trans ?_
        rw [ho]
        exact ab_tm_rn h
      · cases h
  · split at h
    · rename_i hc
      exact (if_pos hc).trans (ab_tm_rn h)
    · cases h
  · cases h
theorem ab_obj_rn {h0 h : List ab_E} (he : ab_emb f h0 h) {a ci : Nat} {fs : List Value} (q : ab_obj h0 a ci = some fs) : ab_obj h (f a) ci = some (fs.map (ab_rn f)) := by
  unfold ab_obj
  rw [he.1 a _ (ab_obj_eq q)]
  exact if_pos rfl
theorem ab_arI_rn {h0 h : List ab_E} (he : ab_emb f h0 h) {a t : Nat} {l : List Int32} (q : ab_arI h0 a t = some l) : ab_arI h (f a) t = some l := by
  unfold ab_arI
  rw [he.1 a _ (ab_arI_eq q)]
  exact if_pos rfl
theorem ab_arL_rn {h0 h : List ab_E} (he : ab_emb f h0 h) {a : Nat} {l : List Int64} (q : ab_arL h0 a = some l) : ab_arL h (f a) = some l := by
  unfold ab_arL
  rw [he.1 a _ (ab_arL_eq q)]
  exact if_pos rfl
theorem ab_arR_rn {h0 h : List ab_E} (he : ab_emb f h0 h) {a u : Nat} {l : List (Option Nat)} (q : ab_arR h0 a = some (u, l)) : ab_arR h (f a) = some (u, l.map (Option.map f)) := by
  unfold ab_arR
  rw [he.1 a _ (ab_arR_eq q).1]
  exact if_pos (ab_arR_eq q).2
theorem ab_arI_no {h : List ab_E} {a : Nat} {l : List Int32} {t u : Nat} (q : ab_arI h a t = some l) (hn : u ≠ t) : ab_arI h a u = none := by
  unfold ab_arI
  rw [ab_arI_eq q]
  exact if_neg (fun z => hn z.symm)
theorem ab_getD_rn (l : List (Option Nat)) (i : Nat) : (l.map (Option.map f)).getD i none = (l.getD i none).map f := by
  rw [List.getD_eq_getElem?_getD, List.getD_eq_getElem?_getD, List.getElem?_map]
  cases l[i]? <;> rfl
theorem ab_rf_rn (o : Option Nat) : ab_rf (o.map f) = ab_rn f (ab_rf o) := by cases o <;> rfl
theorem ab_s4_rn {fT : ab_FT} {oc : Nat → Option FieldType} {h0 h : List ab_E} (he : ab_emb f h0 h) {i : Instr} {k : Nat} {st st' : List Value} (hs : ab_s4 fT oc h0 i k st = some st') : ab_s4 fT oc h i k (st.map (ab_rn f)) = some (st'.map (ab_rn f)) := by
  unfold ab_s4 at hs
  split at hs
  · obtain ⟨q, h1, h2⟩ := Option.bind_eq_some_iff.mp hs
    obtain ⟨fs, h3, h4⟩ := Option.bind_eq_some_iff.mp h2
    obtain ⟨v, h5, h6⟩ := Option.map_eq_some_iff.mp h4
    cases h6
    show (fT _).bind _ = _
    rw [h1]
    show (ab_obj h (f _) q.1).bind _ = _
    rw [ab_obj_rn he h3]
    show ((fs.map (ab_rn f))[q.2.1]?).map _ = _
    rw [List.getElem?_map, h5]
    rfl
  · split at hs
    · rename_i ha
      split at hs
      · rename_i ht
        cases hs
        show (match h[f _]? with
          | some (.inr (.inl (t, x))) => _
          | _ => _) = _
        rw [he.1 _ _ ha]
        refine (if_pos ht).trans ?_
        rw [ab_rnV_len]
        rfl
      · cases hs
    · cases hs
  · obtain ⟨l, h1, h2⟩ := Option.bind_eq_some_iff.mp hs
    split at h2
    · cases h2
    · rename_i hi
      cases h2
      show (ab_arI h (f _) 0).bind _ = _
      rw [ab_arI_rn he h1]
      exact if_neg hi
  · obtain ⟨l, h1, h2⟩ := Option.bind_eq_some_iff.mp hs
    split at h2
    · cases h2
    · rename_i hi
      cases h2
      show (ab_arL h (f _)).bind _ = _
      rw [ab_arL_rn he h1]
      exact if_neg hi
  · split at hs
    · rename_i h1
      split at hs
      · cases hs
      · rename_i hi
        cases hs
        show (match ab_arI h (f _) 2 with
          | some l => _
          | none => _) = _
        rw [ab_arI_rn he h1]
        exact if_neg hi
    · obtain ⟨l, h1, h2⟩ := Option.bind_eq_some_iff.mp hs
      split at h2
      · cases h2
      · rename_i hi
        cases h2
        have h3 := ab_arI_rn he h1
        show (match ab_arI h (f _) 2 with
          | some l => _
          | none => (ab_arI h (f _) 3).bind _) = _
        rw [ab_arI_no h3 (by decide), h3]
        exact if_neg hi
  · obtain ⟨⟨u, l⟩, h1, h2⟩ := Option.bind_eq_some_iff.mp hs
    split at h2
    · cases h2
    · rename_i hi
      cases h2
      show (ab_arR h (f _)).bind _ = _
      rw [ab_arR_rn he h1]
      refine (if_neg ?_).trans ?_
      · show ¬ (_ ∨ (l.map (Option.map f)).length ≤ _ ∨ _)
        rw [List.length_map]
        exact hi
      · show some (ab_rf ((l.map (Option.map f)).getD _ none) :: _) = _
        rw [ab_getD_rn, ab_rf_rn]
        rfl
  · cases hs
theorem ab_narrow_rn (ty : FieldType) (v : Value) (h : narrow ty v = v) : narrow ty (ab_rn f v) = ab_rn f v := by
  cases v with
  | ref k => cases ty <;> rfl
  | _ => exact h
theorem ab_fits_rn (ty : FieldType) (v : Value) : fits ty (ab_un (ab_rn f v)) = fits ty (ab_un v) := by
  cases v <;> cases ty <;> rfl
theorem ab_s5_rn {fT : ab_FT} {oc : Nat → Option FieldType} {cl : List vw_C} {h0 h h1 : List ab_E} (he : ab_emb f h0 h) {i : Instr} {k : Nat} {st st' : List Value} (hs : ab_s5 fT oc cl h0 i k st = some (st', h1)) : ∃ h', ab_s5 fT oc cl h i k (st.map (ab_rn f)) = some (st'.map (ab_rn f), h') ∧ ab_sim f h0 h h1 h' := by
  unfold ab_s5 at hs
  split at hs
  · obtain ⟨q, g1, g2⟩ := Option.bind_eq_some_iff.mp hs
    obtain ⟨fs, g3, g4⟩ := Option.bind_eq_some_iff.mp g2
    split at g4
    · rename_i hq
      cases g4
      refine ⟨_, ?_, ab_sim.set he (ab_obj_eq g3) (by show (fs.set _ _).length = fs.length; rw [List.length_set])⟩
      show (fT _).bind _ = _
      rw [g1]
      show (ab_obj h (f _) q.1).bind _ = _
      rw [ab_obj_rn he g3]
      refine (if_pos ⟨hq.1, by rw [List.length_map]; exact hq.2.1, ab_narrow_rn _ _ hq.2.2.1, (ab_fits_rn _ _).trans hq.2.2.2⟩).trans ?_
      rw [show ∀ (x : Nat) (l : List Value), ab_rnE f (.inr (.inr (x, l))) = .inr (.inr (x, l.map (ab_rn f))) from fun _ _ => rfl, List.map_set]
    · cases g4
  · obtain ⟨l, g1, g2⟩ := Option.bind_eq_some_iff.mp hs
    split at g2
    · cases g2
    · rename_i hi
      cases g2
      refine ⟨_, ?_, ab_sim.set he (ab_arI_eq g1) List.length_set⟩
      show (ab_arI h (f _) 0).bind _ = _
      rw [ab_arI_rn he g1]
      exact if_neg hi
  · obtain ⟨l, g1, g2⟩ := Option.bind_eq_some_iff.mp hs
    split at g2
    · cases g2
    · rename_i hi
      cases g2
      refine ⟨_, ?_, ab_sim.set he (ab_arL_eq g1) List.length_set⟩
      show (ab_arL h (f _)).bind _ = _
      rw [ab_arL_rn he g1]
      exact if_neg hi
  · split at hs
    · rename_i g1
      split at hs
      · cases hs
      · rename_i hi
        cases hs
        refine ⟨_, ?_, ab_sim.set he (ab_arI_eq g1) List.length_set⟩
        show (match ab_arI h (f _) 2 with
          | some l => _
          | none => _) = _
        rw [ab_arI_rn he g1]
        exact if_neg hi
    · obtain ⟨l, g1, g2⟩ := Option.bind_eq_some_iff.mp hs
      split at g2
      · cases g2
      · rename_i hi
        cases g2
        refine ⟨_, ?_, ab_sim.set he (ab_arI_eq g1) List.length_set⟩
        have g3 := ab_arI_rn he g1
        show (match ab_arI h (f _) 2 with
          | some l => _
          | none => (ab_arI h (f _) 3).bind _) = _
        rw [ab_arI_no g3 (by decide), g3]
        exact if_neg hi
  · obtain ⟨⟨u, l⟩, g1, g2⟩ := Option.bind_eq_some_iff.mp hs
    split at g2
    · rename_i hv
      split at g2
      · cases g2
      · rename_i hi
        split at g2
        · rename_i hq
          cases g2
          refine ⟨_, ?_, ab_sim.set he (ab_arR_eq g1).1 List.length_set⟩
          show (ab_arR h (f _)).bind _ = _
          rw [ab_arR_rn he g1]
          show (match h[f _]? with
            | some (.inr (.inr (ci, _))) => _
            | _ => _) = _
          rw [he.1 _ _ hv]
          refine (if_neg ?_).trans ((if_pos hq).trans ?_)
          · show ¬ (_ ∨ (l.map (Option.map f)).length ≤ _)
            rw [List.length_map]
            exact hi
          · rw [show ∀ (x : Nat) (l : List (Option Nat)), ab_rnE f (.inr (.inl (x, .inr (.inr l)))) = .inr (.inl (x, .inr (.inr (l.map (Option.map f))))) from fun _ _ => rfl, List.map_set]
            rfl
        · cases g2
    · cases g2
  · cases hs
end RN

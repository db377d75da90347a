section RN3
variable {f : Nat → Nat}
theorem ab_na_rn {a : ArrayType} {q : Nat × FieldType × (Nat → ab_V)} (h : ab_na a = some q) (n : Nat) : ab_rnE f (.inr (.inl (q.1, q.2.2 n))) = .inr (.inl (q.1, q.2.2 n)) := by
  unfold ab_na at h
  split at h <;> cases h <;> rfl
theorem ab_s6_rn {cT : ab_CT} (hC : ∀ ix q, cT ix = some q → q.2.map (ab_rn f) = q.2) {h0 h : List ab_E} (he : ab_emb f h0 h) {i : Instr} {k : Nat} {st st' : List Value} {x : ab_E} (hs : ab_s6 cT h0 i k st = some (st', x)) : ab_s6 cT h i k (st.map (ab_rn f)) = some (st'.map (ab_rn f), x) ∧ ab_rnE f x = x := by
  have hl : f h0.length = h.length := he.2.2 0
  unfold ab_s6 at hs
  split at hs
  · obtain ⟨q, g1, g2⟩ := Option.map_eq_some_iff.mp hs
    cases g2
    refine ⟨?_, congrArg (fun z => Sum.inr (Sum.inr (q.1, z))) (hC _ _ g1)⟩
    show (cT _).map _ = _
    rw [g1]
    show some (Value.ref h.length :: _, _) = some (Value.ref (f h0.length) :: _, _)
    rw [hl]
  · obtain ⟨q, g1, g2⟩ := Option.bind_eq_some_iff.mp hs
    split at g2
    · cases g2
    · rename_i hq
      cases g2
      refine ⟨?_, ab_na_rn g1 _⟩
      show (ab_na _).bind _ = _
      rw [g1]
      refine (if_neg hq).trans ?_
      show some (Value.ref h.length :: _, _) = some (Value.ref (f h0.length) :: _, _)
      rw [hl]
  · cases hs
theorem ab_s7_rn {kI : Nat → Option Int32} {kL : Nat → Option Int64} {i : Instr} {k : Nat} {st st' : List Value} (h : ab_s7 kI kL i k st = some st') : ab_s7 kI kL i k (st.map (ab_rn f)) = some (st'.map (ab_rn f)) := by
  unfold ab_s7 at h
  split at h
  all_goals first | (cases h; done) | skip
  all_goals
    obtain ⟨v, g1, g2⟩ := Option.map_eq_some_iff.mp h
    cases g2
    show Option.map _ _ = _
    rw [g1]
    rfl
theorem ab_s8_rn {X : ab_X} (h1 : ∀ o ix v, X.1 o ix = some v → ab_rn f v = v) (h2 : ∀ j fid v, X.2.2.1 j fid = some v → ab_rn f v = v) (h3 : ∀ j q, X.2.2.2.1 j = some q → ∀ i, ab_rn f (q.2.2 i) = q.2.2 i) {o : Nat} {i : Instr} {k : Nat} {st st' : List Value} (hs : ab_s8 X o i k st = some st') : ab_s8 X o i k (st.map (ab_rn f)) = some (st'.map (ab_rn f)) := by
  unfold ab_s8 at hs
  split at hs
  · obtain ⟨v, g1, g2⟩ := Option.map_eq_some_iff.mp hs
    cases g2
    show (X.1 _ _).map _ = some (ab_rn f v :: _)
    rw [g1, h1 _ _ _ g1]
    rfl
  · obtain ⟨fid, g1, g2⟩ := Option.bind_eq_some_iff.mp hs
    obtain ⟨v, g3, g4⟩ := Option.map_eq_some_iff.mp g2
    cases g4
    show (X.2.1 _ _).bind _ = some (ab_rn f v :: _)
    rw [g1, h2 _ _ _ g3]
    show (X.2.2.1 _ fid).map _ = _
    rw [g3]
    rfl
  · obtain ⟨q, g1, g2⟩ := Option.map_eq_some_iff.mp hs
    cases g2
    show (X.2.2.2.1 _).map _ = _
    rw [g1]
    rfl
  · obtain ⟨q, g1, g2⟩ := Option.bind_eq_some_iff.mp hs
    split at g2
    · rename_i hq
      cases g2
      show (X.2.2.2.1 _).bind _ = some (ab_rn f (q.2.2 _) :: _)
      rw [g1, h3 _ _ g1]
      exact if_pos hq
    · cases g2
  · obtain ⟨q, g1, g2⟩ := Option.bind_eq_some_iff.mp hs
    split at g2
    · rename_i hq
      cases g2
      show (X.2.2.2.1 _).bind _ = some (ab_rn f (q.2.2 _) :: _)
      rw [g1, h3 _ _ g1]
      exact if_pos hq
    · cases g2
  · obtain ⟨q, g1, g2⟩ := Option.bind_eq_some_iff.mp hs
    split at g2
    · rename_i hq
      cases g2
      show (X.2.2.2.1 _).bind _ = some (ab_rn f (q.2.2 _) :: _)
      rw [g1, h3 _ _ g1]
      exact if_pos hq
    · cases g2
  · obtain ⟨j, g1, g2⟩ := Option.map_eq_some_iff.mp hs
    cases g2
    show (X.2.2.2.2.1 _ _).map _ = _
    rw [g1]
    rfl
  · cases hs
theorem ab_aeq_rn (hf : ∀ j k, f j = f k → j = k) {X : ab_X} (x y : Value) : ab_aeq X (ab_rn f x) (ab_rn f y) = ab_aeq X x y := by
  cases x <;> cases y <;> first | rfl | skip
  rename_i a b
  show some (decide (f a = f b)) = some (decide (a = b))
  congr 1
  by_cases g : a = b
  · rw [decide_eq_true g, decide_eq_true (congrArg f g)]
  · rw [decide_eq_false g, decide_eq_false (fun z => g (hf _ _ z))]
theorem ab_s9_rn {X : ab_X} {oc : Nat → Option FieldType} {o pc t : Nat} {h0 h h1 : List ab_E} (he : ab_emb f h0 h) {i : Instr} {k : Nat} {st st' : List Value} (hs : ab_s9 X oc o h0 i k pc st = some (t, st', h1)) : ∃ h', ab_s9 X oc o h i k pc (st.map (ab_rn f)) = some (t, st'.map (ab_rn f), h') ∧ ab_sim f h0 h h1 h' := by
  unfold ab_s9 at hs
  split at hs
  · obtain ⟨b, g1, g2⟩ := Option.bind_eq_some_iff.mp hs
    obtain ⟨t9, g3, g4⟩ := Option.bind_eq_some_iff.mp g2
    refine ⟨h, ?_, ?_⟩
    · show (ab_aeq X (ab_rn f _) (ab_rn f _)).bind _ = _
      rw [ab_aeq_rn he.2.1, g1]
      show (ab_t pc _).bind _ = _
      rw [g3]
      split at g4
      · rename_i hb
        cases g4
        exact if_pos hb
      · rename_i hb
        cases g4
        exact if_neg hb
    · split at g4 <;> cases g4 <;> exact ab_sim.rf he
  · obtain ⟨b, g1, g2⟩ := Option.bind_eq_some_iff.mp hs
    obtain ⟨t9, g3, g4⟩ := Option.bind_eq_some_iff.mp g2
    refine ⟨h, ?_, ?_⟩
    · show (ab_aeq X (ab_rn f _) (ab_rn f _)).bind _ = _
      rw [ab_aeq_rn he.2.1, g1]
      show (ab_t pc _).bind _ = _
      rw [g3]
      split at g4
      · rename_i hb
        cases g4
        exact if_pos hb
      · rename_i hb
        cases g4
        exact if_neg hb
    · split at g4 <;> cases g4 <;> exact ab_sim.rf he
  · split at hs
    · rename_i hc
      cases hs
      exact ⟨h, if_pos ((ab_rn_cat f _).trans hc), ab_sim.rf he⟩
    · cases hs
  · split at hs
    · cases hs
    · rename_i ho4
      obtain ⟨j, g1, g2⟩ := Option.map_eq_some_iff.mp hs
      cases g2
      refine ⟨h, ?_, ab_sim.rf he⟩
      show (if _ = 44 then none else (X.2.2.2.2.1 _ _).map _) = _
      rw [if_neg ho4, g1]
      rfl
  · split at hs
    · rename_i ha
      split at hs
      · rename_i hc
        cases hs
        refine ⟨h, ?_, ab_sim.rf he⟩
        show (match h[f _]? with
          | some (.inr (.inr (ci, _))) => _
          | _ => _) = _
        rw [he.1 _ _ ha]
        exact if_pos hc
      · cases hs
    · cases hs
  · cases hs
    exact ⟨h, rfl, ab_sim.rf he⟩
  · split at hs
    · rename_i hc
      cases hs
      exact ⟨h, if_pos hc, ab_sim.rf he⟩
    · cases hs
  · split at hs
    · rename_i hc
      cases hs
      exact ⟨h, if_pos hc, ab_sim.rf he⟩
    · cases hs
  · cases hs
    exact ⟨h, rfl, ab_sim.rf he⟩
  · obtain ⟨⟨u, l⟩, g1, g2⟩ := Option.bind_eq_some_iff.mp hs
    split at g2
    · rename_i hv
      split at g2
      · cases g2
      · rename_i hi
        split at g2
        · rename_i hq
          cases g2
          refine ⟨_, ?_, ab_sim.set he (ab_arR_eq g1).1 List.length_set⟩
          show (ab_arR h (f _)).bind _ = _
          rw [ab_arR_rn he g1]
          show (match h[f _]? with
            | some (.inr (.inr (ci, _))) => _
            | _ => _) = _
          rw [he.1 _ _ hv]
          refine (if_neg ?_).trans ((if_pos hq).trans ?_)
          · show ¬ (_ ∨ (l.map (Option.map f)).length ≤ _)
            rw [List.length_map]
            exact hi
          · rw [show ∀ (x : Nat) (l : List (Option Nat)), ab_rnE f (.inr (.inl (x, .inr (.inr l)))) = .inr (.inl (x, .inr (.inr (l.map (Option.map f))))) from fun _ _ => rfl, List.map_set]
            rfl
        · cases g2
    · cases g2
  · obtain ⟨⟨u, l⟩, g1, g2⟩ := Option.bind_eq_some_iff.mp hs
    split at g2
    · cases g2
    · rename_i hi
      split at g2
      · rename_i hC
        cases g2
        refine ⟨_, ?_, ab_sim.set he (ab_arR_eq g1).1 List.length_set⟩
        show (ab_arR h (f _)).bind _ = _
        rw [ab_arR_rn he g1]
        refine (if_neg ?_).trans ?_
        · show ¬ (_ ∨ (l.map (Option.map f)).length ≤ _)
          rw [List.length_map]
          exact hi
        · show (match oc (u - 4) with
            | some (.object _) => _
            | _ => _) = _
          rw [hC, show ∀ (x : Nat) (l : List (Option Nat)), ab_rnE f (.inr (.inl (x, .inr (.inr l)))) = .inr (.inl (x, .inr (.inr (l.map (Option.map f))))) from fun _ _ => rfl, List.map_set]
          rfl
      · cases g2
  · cases hs
theorem ab_d0_rn (k n : Nat) : ab_rnV f (ab_d0 k n) = ab_d0 k n := by
  unfold ab_d0
  split <;> first | rfl | (simp [ab_rnV])
theorem ab_mk_rn : ∀ (ks ns : List Nat) (b b' : Nat), (∀ j, f (b + j) = b' + j) → (ab_mk ks ns b).map (ab_rnE f) = ab_mk ks ns b'
  | [k], [n], b, b', hf => by
    show [ab_rnE f (.inr (.inl (k, ab_d0 k n)))] = [.inr (.inl (k, ab_d0 k n))]
    show [(.inr (.inl (k, ab_rnV f (ab_d0 k n))) : ab_E)] = _
    rw [ab_d0_rn]
  | k :: k' :: ks, n :: ns, b, b', hf => by
    show ab_rnE f (.inr (.inl (k, .inr (.inr ((List.range n).map (fun i => some (b + 1 + i * ab_mkz ns))))))) :: ((List.range n).flatMap (fun i => ab_mk (k' :: ks) ns (b + 1 + i * ab_mkz ns))).map (ab_rnE f) = .inr (.inl (k, .inr (.inr ((List.range n).map (fun i => some (b' + 1 + i * ab_mkz ns)))))) :: (List.range n).flatMap (fun i => ab_mk (k' :: ks) ns (b' + 1 + i * ab_mkz ns))
    congr 1
    · show (.inr (.inl (k, .inr (.inr (((List.range n).map (fun i => some (b + 1 + i * ab_mkz ns))).map (Option.map f))))) : ab_E) = _
      rw [List.map_map]
      have e : (Option.map f ∘ fun i => some (b + 1 + i * ab_mkz ns)) = fun i => some (b' + 1 + i * ab_mkz ns) := by
        funext i
        show some (f (b + 1 + i * ab_mkz ns)) = _
        rw [Nat.add_assoc, hf, Nat.add_assoc]
      rw [e]
    · rw [List.map_flatMap]
      congr 1
      funext i
      refine ab_mk_rn (k' :: ks) ns _ _ (fun j => ?_)
      rw [show b + 1 + i * ab_mkz ns + j = b + (1 + i * ab_mkz ns + j) by omega, hf]
      omega
  | [], _, _, _, _ => by simp [ab_mk]
  | [_], [], _, _, _ => by simp [ab_mk]
  | [_], _ :: _ :: _, _, _, _ => by simp [ab_mk]
  | _ :: _ :: _, [], _, _, _ => by simp [ab_mk]
theorem ab_cnt_rn : ∀ {d : Nat} {st r : List Value} {ns : List Int32}, ab_cnt d st = some (ns, r) → ab_cnt d (st.map (ab_rn f)) = some (ns, r.map (ab_rn f))
  | 0, st, r, ns, hs => by
    cases hs
    rfl
  | d + 1, [], r, ns, hs => by cases hs
  | d + 1, v :: st, r, ns, hs => by
    cases v <;> first | (cases hs; done) | skip
    obtain ⟨⟨ns', r'⟩, q1, q2⟩ := Option.map_eq_some_iff.mp hs
    cases q2
    show (ab_cnt d (st.map (ab_rn f))).map _ = _
    rw [ab_cnt_rn q1]
    rfl
theorem ab_s10_rn {X : ab_X} {o : Nat} {h0 h xs : List ab_E} (he : ab_emb f h0 h) {i : Instr} {k : Nat} {st st' : List Value} (hs : ab_s10 X o h0 i k st = some (st', xs)) : ab_s10 X o h i k (st.map (ab_rn f)) = some (st'.map (ab_rn f), xs.map (ab_rnE f)) := by
  have hl : f h0.length = h.length := he.2.2 0
  unfold ab_s10 at hs
  split at hs
  · obtain ⟨q, g1, g2⟩ := Option.bind_eq_some_iff.mp hs
    split at g2
    · cases g2
    · rename_i hq
      cases g2
      show (ab_xA X _ _).bind _ = _
      rw [g1]
      refine (if_neg hq).trans ?_
      show some (Value.ref h.length :: _, _) = some (Value.ref (f h0.length) :: _, [(.inr (.inl (q, .inr (.inr ((List.replicate _ none).map (Option.map f))))) : ab_E)])
      rw [hl, List.map_replicate]
      rfl
  · obtain ⟨ks, g1, g2⟩ := Option.bind_eq_some_iff.mp hs
    obtain ⟨⟨ns, r⟩, g3, g4⟩ := Option.bind_eq_some_iff.mp g2
    split at g4
    · rename_i hq
      cases g4
      show (ab_xM X _ _).bind _ = _
      rw [g1]
      show (ab_cnt _ _).bind _ = _
      rw [ab_cnt_rn g3]
      refine (if_pos hq).trans ?_
      show some (Value.ref h.length :: _, _) = some (Value.ref (f h0.length) :: _, _)
      rw [hl, ab_mk_rn ks _ h0.length h.length he.2.2]
    · cases g4
  · cases hs
end RN3

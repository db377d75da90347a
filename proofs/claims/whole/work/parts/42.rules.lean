/-! rules for printed programs: reads and writes by the words of part 40 -/
theorem cI (x : Int32) : (Value.int x).category = 1 := rfl
theorem cL (x : Int64) : (Value.long x).category = 2 := rfl
theorem cA {v : Value} (f : oR v = some v) : v.category = 1 := by
  cases v <;> first | rfl | (cases f; done)
theorem lgl_nil : (lg_sl []).length = 0 := rfl
theorem lvI (i : Nat) (x : Int32) (vs : List Value) : lv_args i (.int x :: vs) = (i, .int x) :: lv_args (i + 1) vs := rfl
theorem lvL (i : Nat) (x : Int64) (vs : List Value) : lv_args i (.long x :: vs) = (i, .long x) :: lv_args (i + 2) vs := rfl
theorem lvA {v : Value} (f : oR v = some v) (i : Nat) (vs : List Value) : lv_args i (v :: vs) = (i, v) :: lv_args (i + 1) vs := by
  cases v <;> first | rfl | (cases f; done)
theorem lvN (i : Nat) : lv_args i [] = [] := rfl
theorem g_V_some {h : List ab_E} {v x : Value} {ci k : Nat} (q : g_V h v ci k = some x) : ∃ (a : Nat) (fs : List Value), v = .ref a ∧ h[a]? = some (.inr (.inr (ci, fs))) ∧ fs[k]? = some x := by
  unfold g_V at q
  split at q
  · rename_i a
    obtain ⟨fs, h1, h2⟩ := Option.bind_eq_some_iff.mp q
    exact ⟨a, fs, rfl, ab_obj_eq h1, h2⟩
  · cases q
theorem oI_some {v : Value} {x : Int32} (q : oI v = some x) : v = .int x := by
  unfold oI at q
  split at q <;> first | (cases q; rfl) | (cases q; done)
theorem oL_some {v : Value} {x : Int64} (q : oL v = some x) : v = .long x := by
  unfold oL at q
  split at q <;> first | (cases q; rfl) | (cases q; done)
theorem oR_some {v x : Value} (q : oR v = some x) : v = x ∧ oR x = some x := by
  unfold oR at q
  split at q <;> first | (cases q; exact ⟨rfl, rfl⟩) | (cases q; done)
section RU
variable {G : ab_G} {T : ab_GT} {d : Nat} {M : ab_MX} {pc : Nat} {lv : ab_L} {h : List ab_E} {Q : ab_RX → List ab_E → Prop}
theorem ab_fin.fI {ix ci k pc' : Nat} {ty : FieldType} {ok : Bool} {v : Value} {x : Int32} {r : List Value} (hd : decode (ab_mc M.1) pc = .ok (.getfield ix, 3)) (hF : ab_gF G (ab_mo M.1) (ab_mi M.1) ix = some (ci, k, ty, ok)) (q : g_I h v ci k = some x) (hp : pc + 3 = pc') (e : ab_fin G T d M pc' lv (.int x :: r) h Q) : ab_fin G T d M pc lv (v :: r) h Q := by
  obtain ⟨w, q1, q2⟩ := Option.bind_eq_some_iff.mp q
  obtain ⟨a, fs, rfl, h1, h2⟩ := g_V_some q1
  rw [oI_some q2] at h2
  exact ab_fin.getf hd hF h1 h2 hp e
theorem ab_fin.fL {ix ci k pc' : Nat} {ty : FieldType} {ok : Bool} {v : Value} {x : Int64} {r : List Value} (hd : decode (ab_mc M.1) pc = .ok (.getfield ix, 3)) (hF : ab_gF G (ab_mo M.1) (ab_mi M.1) ix = some (ci, k, ty, ok)) (q : g_L h v ci k = some x) (hp : pc + 3 = pc') (e : ab_fin G T d M pc' lv (.long x :: r) h Q) : ab_fin G T d M pc lv (v :: r) h Q := by
  obtain ⟨w, q1, q2⟩ := Option.bind_eq_some_iff.mp q
  obtain ⟨a, fs, rfl, h1, h2⟩ := g_V_some q1
  rw [oL_some q2] at h2
  exact ab_fin.getf hd hF h1 h2 hp e
theorem ab_fin.fR {ix ci k pc' : Nat} {ty : FieldType} {ok : Bool} {v x : Value} {r : List Value} (hd : decode (ab_mc M.1) pc = .ok (.getfield ix, 3)) (hF : ab_gF G (ab_mo M.1) (ab_mi M.1) ix = some (ci, k, ty, ok)) (q : g_R h v ci k = some x) (hp : pc + 3 = pc') (e : ab_fin G T d M pc' lv (x :: r) h Q) : ab_fin G T d M pc lv (v :: r) h Q := by
  obtain ⟨w, q1, q2⟩ := Option.bind_eq_some_iff.mp q
  obtain ⟨a, fs, rfl, h1, h2⟩ := g_V_some q1
  rw [(oR_some q2).1] at h2
  exact ab_fin.getf hd hF h1 h2 hp e
theorem g_R_oR {h : List ab_E} {v x : Value} {ci k : Nat} (q : g_R h v ci k = some x) : oR x = some x := by
  obtain ⟨w, q1, q2⟩ := Option.bind_eq_some_iff.mp q
  exact (oR_some q2).2
theorem ab_fin.pF {ix ci k pc' : Nat} {ty : FieldType} {v x : Value} {r : List Value} {h1 : List ab_E} (hd : decode (ab_mc M.1) pc = .ok (.putfield ix, 3)) (hF : ab_gF G (ab_mo M.1) (ab_mi M.1) ix = some (ci, k, ty, true)) (q : g_P h v ci k x = some h1) (hn : narrow ty x = x) (hf : fits ty (ab_un x) = true) (hp : pc + 3 = pc') (e : ab_fin G T d M pc' lv r h1 Q) : ab_fin G T d M pc lv (x :: v :: r) h Q := by
  unfold g_P at q
  split at q
  · obtain ⟨fs, h2, h3⟩ := Option.bind_eq_some_iff.mp q
    split at h3
    · rename_i hk
      cases h3
      exact ab_fin.putf hd hF (ab_obj_eq h2) hk hn hf rfl hp e
    · cases h3
  · cases q
theorem ab_fin.ald {i : Instr} {n k pc' : Nat} {v : Value} {r : List Value} (hi : (∃ m, i = .aload_n m ∧ (m : Nat) = n ∧ k = 1) ∨ (i = .aload n ∧ k = 2)) (hd : decode (ab_mc M.1) pc = .ok (i, k)) (ha : ab_at lv n = some v) (f : oR v = some v) (hp : pc + k = pc') (e : ab_fin G T d M pc' lv (v :: r) h Q) : ab_fin G T d M pc lv r h Q := by
  refine ab_fin.s2 hd ?_ hp e
  rcases hi with ⟨m, rfl, rfl, rfl⟩ | ⟨rfl, rfl⟩
  · cases v <;> first | (simp only [ab_s2, ha]; done) | (cases f; done)
  · cases v <;> first | (simp only [ab_s2, ha]; done) | (cases f; done)
end RU

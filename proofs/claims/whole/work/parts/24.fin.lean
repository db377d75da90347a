/-! GOING ON: what a run comes to, said backwards (the goal first): a row an instruction -/
def ab_fin (G : ab_G) (T : ab_GT) (d : Nat) (M : ab_MX) (pc : Nat) (lv : ab_L) (st : List Value) (h : List ab_E) (Q : ab_RX → List ab_E → Prop) : Prop := ∃ r h', ab_ev G T d M pc lv st h r h' ∧ Q r h'
/-- behind a call -/
def ab_bk (G : ab_G) (T : ab_GT) (d : Nat) (M : ab_MX) (pc : Nat) (lv : ab_L) (rest : List Value) (sp : Bool) (Q : ab_RX → List ab_E → Prop) : ab_RX → List ab_E → Prop
  | .inl v, h1 => ab_fin G T (d + 1) M (pc + 3) lv (v.toList ++ rest) h1 Q
  | .inr (E, q), h1 => sp = false ∧ match ab_hd T (ab_mo M.1) E pc M.2 with
    | some (some hp) => ab_fin G T (d + 1) M hp lv [.ref q] h1 Q
    | some none => Q (.inr (E, q)) h1
    | none => False
section FIN
variable {G : ab_G} {T : ab_GT} {d : Nat} {M : ab_MX} {pc : Nat} {lv : ab_L} {st : List Value} {h : List ab_E} {Q : ab_RX → List ab_E → Prop}
theorem ab_fin.step {i : Instr} {k pc' : Nat} {lv' : ab_L} {st' : List Value} {h1 : List ab_E} (hd : decode (ab_mc M.1) pc = .ok (i, k)) (hs : ab_step G M.1 i k pc lv st h = some (pc', lv', st', h1)) (e : ab_fin G T d M pc' lv' st' h1 Q) : ab_fin G T d M pc lv st h Q := by
  obtain ⟨r, h', e, q⟩ := e
  exact ⟨r, h', e.step hd hs, q⟩
theorem ab_fin.ret {i : Instr} {k : Nat} (v : Option Value) (hd : decode (ab_mc M.1) pc = .ok (i, k)) (hr : ab_ret (ab_mr M.1) i k st = some v) (q : Q (.inl v) h) : ab_fin G T d M pc lv st h Q := ⟨_, _, ab_ev.ret hd hr, q⟩
theorem ab_fin.obi {i : Instr} {k : Nat} {pc' : Nat} {st' : List Value} (hd : decode (ab_mc M.1) pc = .ok (i, k)) (ho : ab_obi G (ab_mo M.1) i k st = some st') (hp : pc + 3 = pc') (e : ab_fin G T (d + 1) M pc' lv st' h Q) : ab_fin G T (d + 1) M pc lv st h Q := by
  subst hp
  obtain ⟨r, h', e, q⟩ := e
  exact ⟨r, h', e.obi hd ho, q⟩
theorem ab_ev.cpy {i : Instr} {k : Nat} {st' : List Value} {h1 h' : List ab_E} {r : ab_RX} (hd : decode (ab_mc M.1) pc = .ok (i, k)) (ho : ab_cpy G (ab_mo M.1) h i k st = some (st', h1)) (e : ab_ev G T (d + 1) M (pc + 3) lv st' h1 r h') : ab_ev G T (d + 1) M pc lv st h r h' := by
  obtain ⟨n, e⟩ := e
  refine ⟨n + 1, ?_⟩
  obtain ⟨ix, rfl | rfl, -⟩ := ab_cpy_c ho
  · have nr : ab_ret (ab_mr M.1) (.invokestatic ix) k st = none := ab_no fun r q => by cases ab_ret_c q
    have no : ab_obi G (ab_mo M.1) (.invokestatic ix) k st = none := rfl
    rw [ab_rx, hd]
    simp only [ab_step_no (G := G) (M := M.1) (h := h) (k := k) (pc := pc) (lv := lv) (st := st) (i := .invokestatic ix) (Nat.le_of_ble_eq_true rfl), nr, no, ho]
    exact e
  · have nr : ab_ret (ab_mr M.1) (.invokevirtual ix) k st = none := ab_no fun r q => by cases ab_ret_c q
    have no : ab_obi G (ab_mo M.1) (.invokevirtual ix) k st = none := rfl
    rw [ab_rx, hd]
    simp only [ab_step_no (G := G) (M := M.1) (h := h) (k := k) (pc := pc) (lv := lv) (st := st) (i := .invokevirtual ix) (Nat.le_of_ble_eq_true rfl), nr, no, ho]
    exact e
theorem ab_fin.cpy {i : Instr} {k : Nat} {pc' : Nat} {st' : List Value} {h1 : List ab_E} (hd : decode (ab_mc M.1) pc = .ok (i, k)) (ho : ab_cpy G (ab_mo M.1) h i k st = some (st', h1)) (hp : pc + 3 = pc') (e : ab_fin G T (d + 1) M pc' lv st' h1 Q) : ab_fin G T (d + 1) M pc lv st h Q := by
  subst hp
  obtain ⟨r, h', e, q⟩ := e
  exact ⟨r, h', e.cpy hd ho, q⟩
/-- a call -/
theorem ab_fin.call {i : Instr} {k y : Nat} {As rest : List Value} {M' : ab_MX} (hd : decode (ab_mc M.1) pc = .ok (i, k)) (hc : ab_call G (ab_mo M.1) h i k st = some (y, As, rest)) (hM : ab_mx G T y = some M') (hl : (lg_sl As).length ≤ ab_mL M'.1) (e1 : ab_fin G T d M' 0 (lv_args 0 As) [] h (ab_bk G T d M pc lv rest (ab_sp i) Q)) : ab_fin G T (d + 1) M pc lv st h Q := by
  obtain ⟨r1, h1, e1, q1⟩ := e1
  rcases r1 with v | ⟨E, q⟩
  · obtain ⟨r, h', e, q⟩ := q1
    exact ⟨r, h', ab_ev.call hd hc hM hl e1 e, q⟩
  · obtain ⟨hsp, q1⟩ := q1
    split at q1
    · rename_i hp hh
      obtain ⟨r, h', e, q⟩ := q1
      exact ⟨r, h', ab_ev.callC hd hsp hc hM hl e1 hh e, q⟩
    · rename_i hh
      exact ⟨_, _, ab_ev.callX hd hsp hc hM hl e1 hh, q1⟩
    · cases q1
/-- a call of which is known what it comes to -/
theorem ab_fin.known {i : Instr} {k y pc' : Nat} {As rest st' : List Value} {M' : ab_MX} {v : Option Value} {h1 : List ab_E} (hd : decode (ab_mc M.1) pc = .ok (i, k)) (hc : ab_call G (ab_mo M.1) h i k st = some (y, As, rest)) (hM : ab_mx G T y = some M') (hl : (lg_sl As).length ≤ ab_mL M'.1) (e1 : ab_ev G T d M' 0 (lv_args 0 As) [] h (.inl v) h1) (hp : pc + 3 = pc') (hst : v.toList ++ rest = st') (e : ab_fin G T (d + 1) M pc' lv st' h1 Q) : ab_fin G T (d + 1) M pc lv st h Q := by
  subst hp
  subst hst
  obtain ⟨r, h', e, q⟩ := e
  exact ⟨r, h', ab_ev.call hd hc hM hl e1 e, q⟩
theorem ab_fin.thr {i : Instr} {k : Nat} {cls : String} (hd : decode (ab_mc M.1) pc = .ok (i, k)) (ht : ab_thr T M pc i k = some cls) (hn : ∀ ix, i = .new ix → ab_gC G (ab_mo M.1) ix = none) (h8 : 8 ≤ d) (hc : ab_cat st ≤ 8) (q : Q (.inr (cls, h.length)) (h ++ [.inl 6])) : ab_fin G T (d + 1) M pc lv st h Q := ⟨_, _, ab_ev.thr hd ht hn h8 hc, q⟩
theorem ab_ev.ath {i : Instr} {k q : Nat} {E : String} {hp : Nat} {h' : List ab_E} {r : ab_RX} (hd : decode (ab_mc M.1) pc = .ok (i, k)) (ha : ab_ath G h i k st = some (E, q)) (hh : ab_hd T (ab_mo M.1) E pc M.2 = some (some hp)) (e : ab_ev G T (d + 1) M hp lv [.ref q] h r h') : ab_ev G T (d + 1) M pc lv st h r h' := by
  obtain rfl := ab_ath_c ha
  obtain ⟨n, e⟩ := e
  refine ⟨n + 1, ?_⟩
  have nr : ab_ret (ab_mr M.1) .athrow k st = none := ab_no fun r q => by cases ab_ret_c q
  rw [ab_rx, hd]
  simp only [ab_step_no (G := G) (M := M.1) (h := h) (k := k) (pc := pc) (lv := lv) (st := st) (i := .athrow) (by decide), nr, show ab_obi G (ab_mo M.1) .athrow k st = none from rfl, show ab_cpy G (ab_mo M.1) h .athrow k st = none from rfl, show ab_call G (ab_mo M.1) h .athrow k st = none from rfl, ha, hh]
  exact e
theorem ab_ev.athX {i : Instr} {k q : Nat} {E : String} (hd : decode (ab_mc M.1) pc = .ok (i, k)) (ha : ab_ath G h i k st = some (E, q)) (hh : ab_hd T (ab_mo M.1) E pc M.2 = some none) : ab_ev G T (d + 1) M pc lv st h (.inr (E, q)) h := by
  obtain rfl := ab_ath_c ha
  refine ⟨1, ?_⟩
  have nr : ab_ret (ab_mr M.1) .athrow k st = none := ab_no fun r q => by cases ab_ret_c q
  rw [ab_rx, hd]
  simp only [ab_step_no (G := G) (M := M.1) (h := h) (k := k) (pc := pc) (lv := lv) (st := st) (i := .athrow) (by decide), nr, show ab_obi G (ab_mo M.1) .athrow k st = none from rfl, show ab_cpy G (ab_mo M.1) h .athrow k st = none from rfl, show ab_call G (ab_mo M.1) h .athrow k st = none from rfl, ha, hh]
theorem ab_fin.athX {i : Instr} {k q : Nat} {E : String} (hd : decode (ab_mc M.1) pc = .ok (i, k)) (ha : ab_ath G h i k st = some (E, q)) (hh : ab_hd T (ab_mo M.1) E pc M.2 = some none) (hq : Q (.inr (E, q)) h) : ab_fin G T (d + 1) M pc lv st h Q := ⟨_, _, ab_ev.athX hd ha hh, hq⟩
/-! the pieces of a step -/
theorem ab_fin.s1 {i : Instr} {k pc' : Nat} {st' : List Value} (hd : decode (ab_mc M.1) pc = .ok (i, k)) (hs : ab_s1 i k st = some st') (hp : pc + k = pc') (e : ab_fin G T d M pc' lv st' h Q) : ab_fin G T d M pc lv st h Q := by
  subst hp
  exact e.step hd (by simp only [ab_step, hs])
theorem ab_fin.s2 {i : Instr} {k pc' : Nat} {lv' : ab_L} {st' : List Value} (hd : decode (ab_mc M.1) pc = .ok (i, k)) (hs : ab_s2 (ab_mL M.1) i k lv st = some (lv', st')) (hp : pc + k = pc') (e : ab_fin G T d M pc' lv' st' h Q) : ab_fin G T d M pc lv st h Q := by
  subst hp
  have c := ab_c2 hs
  have n1 : ab_s1 i k st = none := ab_no fun r q => by have := ab_c1 q; omega
  exact e.step hd (by simp only [ab_step, n1, hs])
theorem ab_fin.s3 {i : Instr} {k t : Nat} {st' : List Value} (hd : decode (ab_mc M.1) pc = .ok (i, k)) (hs : ab_s3 i k pc st = some (t, st')) (e : ab_fin G T d M t lv st' h Q) : ab_fin G T d M pc lv st h Q := by
  have c := ab_c3 hs
  have n1 : ab_s1 i k st = none := ab_no fun r q => by have := ab_c1 q; omega
  have n2 : ab_s2 (ab_mL M.1) i k lv st = none := ab_no fun r q => by have := ab_c2 q; omega
  exact e.step hd (by simp only [ab_step, n1, n2, hs])
theorem ab_fin.s4 {i : Instr} {k pc' : Nat} {st' : List Value} (hd : decode (ab_mc M.1) pc = .ok (i, k)) (hs : ab_s4 (ab_gF G (ab_mo M.1) (ab_mi M.1)) (ab_gO G) h i k st = some st') (hp : pc + k = pc') (e : ab_fin G T d M pc' lv st' h Q) : ab_fin G T d M pc lv st h Q := by
  subst hp
  have c := ab_c4 hs
  have n1 : ab_s1 i k st = none := ab_no fun r q => by have := ab_c1 q; omega
  have n2 : ab_s2 (ab_mL M.1) i k lv st = none := ab_no fun r q => by have := ab_c2 q; omega
  have n3 : ab_s3 i k pc st = none := ab_no fun r q => by have := ab_c3 q; omega
  exact e.step hd (by simp only [ab_step, n1, n2, n3, hs])
theorem ab_fin.s5 {i : Instr} {k pc' : Nat} {st' : List Value} {h1 : List ab_E} (hd : decode (ab_mc M.1) pc = .ok (i, k)) (hs : ab_s5 (ab_gF G (ab_mo M.1) (ab_mi M.1)) (ab_gO G) (ab_gK G) h i k st = some (st', h1)) (hp : pc + k = pc') (e : ab_fin G T d M pc' lv st' h1 Q) : ab_fin G T d M pc lv st h Q := by
  subst hp
  have c := ab_c5 hs
  have n1 : ab_s1 i k st = none := ab_no fun r q => by have := ab_c1 q; omega
  have n2 : ab_s2 (ab_mL M.1) i k lv st = none := ab_no fun r q => by have := ab_c2 q; omega
  have n3 : ab_s3 i k pc st = none := ab_no fun r q => by have := ab_c3 q; omega
  have n4 : ab_s4 (ab_gF G (ab_mo M.1) (ab_mi M.1)) (ab_gO G) h i k st = none := ab_no fun r q => by have := ab_c4 q; omega
  exact e.step hd (by simp only [ab_step, n1, n2, n3, n4, hs])
/-- a branch: both ways -/
theorem ab_fin.br {c : Prop} [Decidable c] {i : Instr} {off : Int} {t pc' : Nat} {r : List Value} (hd : decode (ab_mc M.1) pc = .ok (i, 3)) (hs : ab_s3 i 3 pc st = (ab_t pc off).bind (fun t => if c then some (t, r) else some (pc + 3, r))) (ht : ab_t pc off = some t) (hp : pc + 3 = pc') (e1 : c → ab_fin G T d M t lv r h Q) (e2 : ¬ c → ab_fin G T d M pc' lv r h Q) : ab_fin G T d M pc lv st h Q := by
  subst hp
  rw [ht] at hs
  by_cases hc : c
  · simp only [Option.bind_some, if_pos hc] at hs
    exact (e1 hc).s3 hd hs
  · simp only [Option.bind_some, if_neg hc] at hs
    exact (e2 hc).s3 hd hs
/-! reads and writes of cells that are known -/
theorem ab_fin.getf {ix ci k a pc' : Nat} {ty : FieldType} {ok : Bool} {fs r : List Value} {v : Value} (hd : decode (ab_mc M.1) pc = .ok (.getfield ix, 3)) (hF : ab_gF G (ab_mo M.1) (ab_mi M.1) ix = some (ci, k, ty, ok)) (ho : h[a]? = some (.inr (.inr (ci, fs)))) (hv : fs[k]? = some v) (hp : pc + 3 = pc') (e : ab_fin G T d M pc' lv (v :: r) h Q) : ab_fin G T d M pc lv (.ref a :: r) h Q := by
  refine ab_fin.s4 hd ?_ hp e
  simp only [ab_s4, hF, ab_obj, ho, Option.bind_some, if_pos, hv, Option.map_some]
theorem ab_fin.putf {ix ci k a pc' : Nat} {ty : FieldType} {fs r : List Value} {v : Value} {h1 : List ab_E} (hd : decode (ab_mc M.1) pc = .ok (.putfield ix, 3)) (hF : ab_gF G (ab_mo M.1) (ab_mi M.1) ix = some (ci, k, ty, true)) (ho : h[a]? = some (.inr (.inr (ci, fs)))) (hk : k < fs.length) (hn : narrow ty v = v) (hf : fits ty (ab_un v) = true) (hw : h.set a (.inr (.inr (ci, fs.set k v))) = h1) (hp : pc + 3 = pc') (e : ab_fin G T d M pc' lv r h1 Q) : ab_fin G T d M pc lv (v :: .ref a :: r) h Q := by
  refine ab_fin.s5 hd ?_ hp e
  simp only [ab_s5, hF, ab_obj, ho, Option.bind_some, if_pos, if_pos (And.intro trivial (And.intro hk (And.intro hn hf))), hk, hn, hf, and_self, hw]
theorem ab_fin.alen {a t pc' : Nat} {x : ab_V} {n : Int32} {r : List Value} (hd : decode (ab_mc M.1) pc = .ok (.arraylength, 1)) (ho : h[a]? = some (.inr (.inl (t, x)))) (ht : t < 4 ∨ (ab_gO G (t - 4)).isSome = true) (hn : Int32.ofNat (ab_len x) = n) (hp : pc + 1 = pc') (e : ab_fin G T d M pc' lv (.int n :: r) h Q) : ab_fin G T d M pc lv (.ref a :: r) h Q := by
  refine ab_fin.s4 hd ?_ hp e
  simp only [ab_s4, ho, if_pos ht, hn]
theorem ab_fin.iald {a pc' : Nat} {l : List Int32} {i v : Int32} {r : List Value} (hd : decode (ab_mc M.1) pc = .ok (.iaload, 1)) (ho : h[a]? = some (.inr (.inl (0, .inl l)))) (hi : ¬ (i < 0 ∨ l.length ≤ i.toNatClampNeg)) (hv : l.getD i.toNatClampNeg 0 = v) (hp : pc + 1 = pc') (e : ab_fin G T d M pc' lv (.int v :: r) h Q) : ab_fin G T d M pc lv (.int i :: .ref a :: r) h Q := by
  refine ab_fin.s4 hd ?_ hp e
  simp only [ab_s4, ab_arI, ho, if_pos, Option.bind_some, if_neg hi, hv]
theorem ab_fin.bald {a t pc' : Nat} {l : List Int32} {i v : Int32} {r : List Value} (hd : decode (ab_mc M.1) pc = .ok (.baload, 1)) (ht : t = 2 ∨ t = 3) (ho : h[a]? = some (.inr (.inl (t, .inl l)))) (hi : ¬ (i < 0 ∨ l.length ≤ i.toNatClampNeg)) (hv : l.getD i.toNatClampNeg 0 = v) (hp : pc + 1 = pc') (e : ab_fin G T d M pc' lv (.int v :: r) h Q) : ab_fin G T d M pc lv (.int i :: .ref a :: r) h Q := by
  refine ab_fin.s4 hd ?_ hp e
  rcases ht with rfl | rfl
  · simp only [ab_s4, ab_arI, ho, if_pos, if_neg hi, hv]
  · simp only [ab_s4, ab_arI, ho, if_neg (show ¬ (3 = 2) by decide), if_pos, Option.bind_some, if_neg hi, hv]
theorem ab_fin.lald {a pc' : Nat} {l : List Int64} {i : Int32} {v : Int64} {r : List Value} (hd : decode (ab_mc M.1) pc = .ok (.laload, 1)) (ho : h[a]? = some (.inr (.inl (1, .inr (.inl l))))) (hi : ¬ (i < 0 ∨ l.length ≤ i.toNatClampNeg)) (hv : l.getD i.toNatClampNeg 0 = v) (hp : pc + 1 = pc') (e : ab_fin G T d M pc' lv (.long v :: r) h Q) : ab_fin G T d M pc lv (.int i :: .ref a :: r) h Q := by
  refine ab_fin.s4 hd ?_ hp e
  simp only [ab_s4, ab_arL, ho, if_pos, Option.bind_some, if_neg hi, hv]
theorem ab_fin.aald {a t pc' : Nat} {l : List (Option Nat)} {i : Int32} {v : Value} {r : List Value} (hd : decode (ab_mc M.1) pc = .ok (.aaload, 1)) (ho : h[a]? = some (.inr (.inl (t, .inr (.inr l))))) (ht : 4 ≤ t) (hr : (ab_gO G (t - 4)).map (fun t => t.isReference) = some true) (hi : ¬ (i < 0 ∨ l.length ≤ i.toNatClampNeg)) (hv : ab_rf (l.getD i.toNatClampNeg none) = v) (hp : pc + 1 = pc') (e : ab_fin G T d M pc' lv (v :: r) h Q) : ab_fin G T d M pc lv (.int i :: .ref a :: r) h Q := by
  refine ab_fin.s4 hd ?_ hp e
  have hi' : ¬ (i < 0 ∨ l.length ≤ i.toNatClampNeg ∨ ¬ (ab_gO G (t - 4)).map (fun t => t.isReference) = some true) := by
    rw [hr]
    rintro (q | q | q)
    · exact hi (Or.inl q)
    · exact hi (Or.inr q)
    · exact q rfl
  simp only [ab_s4, ab_arR, ho, if_pos ht, Option.bind_some, if_neg hi', hv]
theorem ab_fin.iast {a pc' : Nat} {l : List Int32} {i x : Int32} {r : List Value} {h1 : List ab_E} (hd : decode (ab_mc M.1) pc = .ok (.iastore, 1)) (ho : h[a]? = some (.inr (.inl (0, .inl l)))) (hi : ¬ (i < 0 ∨ l.length ≤ i.toNatClampNeg)) (hw : h.set a (.inr (.inl (0, .inl (l.set i.toNatClampNeg x)))) = h1) (hp : pc + 1 = pc') (e : ab_fin G T d M pc' lv r h1 Q) : ab_fin G T d M pc lv (.int x :: .int i :: .ref a :: r) h Q := by
  refine ab_fin.s5 hd ?_ hp e
  simp only [ab_s5, ab_arI, ho, if_pos, Option.bind_some, if_neg hi, hw]
theorem ab_fin.last {a pc' : Nat} {l : List Int64} {i : Int32} {x : Int64} {r : List Value} {h1 : List ab_E} (hd : decode (ab_mc M.1) pc = .ok (.lastore, 1)) (ho : h[a]? = some (.inr (.inl (1, .inr (.inl l))))) (hi : ¬ (i < 0 ∨ l.length ≤ i.toNatClampNeg)) (hw : h.set a (.inr (.inl (1, .inr (.inl (l.set i.toNatClampNeg x))))) = h1) (hp : pc + 1 = pc') (e : ab_fin G T d M pc' lv r h1 Q) : ab_fin G T d M pc lv (.long x :: .int i :: .ref a :: r) h Q := by
  refine ab_fin.s5 hd ?_ hp e
  simp only [ab_s5, ab_arL, ho, if_pos, Option.bind_some, if_neg hi, hw]
theorem ab_fin.bast {a t pc' : Nat} {l : List Int32} {i x : Int32} {r : List Value} {h1 : List ab_E} (hd : decode (ab_mc M.1) pc = .ok (.bastore, 1)) (ht : t = 2 ∨ t = 3) (ho : h[a]? = some (.inr (.inl (t, .inl l)))) (hi : ¬ (i < 0 ∨ l.length ≤ i.toNatClampNeg)) (hw : h.set a (.inr (.inl (t, .inl (l.set i.toNatClampNeg (vp_nar (if t = 2 then .byte else .boolean) x))))) = h1) (hp : pc + 1 = pc') (e : ab_fin G T d M pc' lv r h1 Q) : ab_fin G T d M pc lv (.int x :: .int i :: .ref a :: r) h Q := by
  refine ab_fin.s5 hd ?_ hp e
  rcases ht with rfl | rfl
  · rw [if_pos rfl] at hw
    simp only [ab_s5, ab_arI, ho, if_pos, if_neg hi, hw]
  · rw [if_neg (by decide)] at hw
    simp only [ab_s5, ab_arI, ho, if_neg (show ¬ (3 = 2) by decide), if_pos, Option.bind_some, if_neg hi, hw]
end FIN
/-! a heap some of whose cells are others -/
abbrev ab_O : Type := List (Nat × ab_E)
def ab_ov (h : List ab_E) : ab_O → List ab_E
  | [] => h
  | (a, e) :: o => (ab_ov h o).set a e
theorem ab_ov_len (h : List ab_E) : ∀ o : ab_O, (ab_ov h o).length = h.length
  | [] => rfl
  | (a, e) :: o => by
    unfold ab_ov
    rw [List.length_set, ab_ov_len h o]
theorem ab_ov_get {h : List ab_E} {a : Nat} {e : ab_E} (ha : a < h.length) : ∀ {o : ab_O}, o.lookup a = some e → (ab_ov h o)[a]? = some e
  | [], q => by cases q
  | (b, x) :: o, q => by
    rw [List.lookup_cons] at q
    unfold ab_ov
    by_cases g : (a == b) = true
    · rw [g] at q
      cases q
      obtain rfl := eq_of_beq g
      exact List.getElem?_set_self (by rw [ab_ov_len]; exact ha)
    · have g2 : (a == b) = false := by simpa using g
      rw [g2] at q
      rw [List.getElem?_set_ne (fun z => g (by rw [z]; exact beq_self_eq_true a))]
      exact ab_ov_get ha q
theorem ab_ov_no {h : List ab_E} {a : Nat} {e : ab_E} (ha : h[a]? = some e) : ∀ {o : ab_O}, o.lookup a = none → (ab_ov h o)[a]? = some e
  | [], _ => ha
  | (b, x) :: o, q => by
    rw [List.lookup_cons] at q
    unfold ab_ov
    by_cases g : (a == b) = true
    · rw [g] at q
      cases q
    · have g2 : (a == b) = false := by simpa using g
      rw [g2] at q
      rw [List.getElem?_set_ne (fun z => g (by rw [z]; exact beq_self_eq_true a))]
      exact ab_ov_no ha q
/-- one cell written, what was written there before left out -/
def ab_os (o : ab_O) (a : Nat) (e : ab_E) : ab_O := (a, e) :: o.filter (fun q => !(q.1 == a))
theorem ab_set_comm {h : List ab_E} {a b : Nat} {x y : ab_E} (g : a ≠ b) : (h.set a x).set b y = (h.set b y).set a x := List.set_comm x y g
theorem ab_ov_set {h : List ab_E} {o o' : ab_O} {a : Nat} {e : ab_E} (q : ab_os o a e = o') : (ab_ov h o).set a e = ab_ov h o' := by
  subst q
  unfold ab_os
  show _ = (ab_ov h _).set a e
  induction o with
  | nil => rfl
  | cons x o ih =>
    obtain ⟨b, y⟩ := x
    rw [List.filter_cons]
    by_cases g : b = a
    · subst g
      rw [if_neg (by simp), ← ih]
      show ((ab_ov h o).set b y).set b e = _
      rw [List.set_set]
    · rw [if_pos (by simpa using g)]
      show ((ab_ov h o).set b y).set a e = ((ab_ov h _).set b y).set a e
      rw [ab_set_comm g, ih, ab_set_comm g]
theorem ab_z_setle (h : List ab_E) (a : Nat) (e : ab_E) : ab_z (h.set a e) ≤ ab_z h + ab_z1 e := by
  unfold ab_z
  induction h generalizing a with
  | nil => exact Nat.zero_le _
  | cons x h ih =>
    cases a with
    | zero =>
      simp only [List.set_cons_zero, List.map_cons, List.sum_cons]
      omega
    | succ a =>
      have := ih a
      simp only [List.set_cons_succ, List.map_cons, List.sum_cons]
      omega
theorem ab_ov_z (h : List ab_E) : ∀ o : ab_O, ab_z (ab_ov h o) ≤ ab_z h + (o.map (fun q => ab_z1 q.2)).sum
  | [] => Nat.le_refl _
  | (a, e) :: o => by
    have a1 := ab_z_setle (ab_ov h o) a e
    have a2 := ab_ov_z h o
    simp only [List.map_cons, List.sum_cons]
    show ab_z ((ab_ov h o).set a e) ≤ _
    omega
theorem ab_ov_app {h : List ab_E} {x : List ab_E} : ∀ {o : ab_O}, (∀ q ∈ o, q.1 < h.length) → ab_ov h o ++ x = ab_ov (h ++ x) o
  | [], _ => rfl
  | (a, e) :: o, q => by
    show (ab_ov h o).set a e ++ x = (ab_ov (h ++ x) o).set a e
    rw [← ab_ov_app (fun y hy => q y (List.mem_cons_of_mem _ hy)), List.set_append_left _ _ (by rw [ab_ov_len]; exact q _ List.mem_cons_self)]
section FIN2
variable {G : ab_G} {T : ab_GT} {d : Nat} {M : ab_MX} {pc : Nat} {lv : ab_L} {st : List Value} {h : List ab_E} {Q : ab_RX → List ab_E → Prop}
theorem ab_bk.back {rest st' : List Value} {sp : Bool} {v : Option Value} {pc' : Nat} (hp : pc + 3 = pc') (hst : v.toList ++ rest = st') (e : ab_fin G T (d + 1) M pc' lv st' h Q) : ab_bk G T d M pc lv rest sp Q (.inl v) h := by
  subst hp
  subst hst
  exact e
theorem ab_bk.catch {rest : List Value} {sp : Bool} {E : String} {q hp : Nat} (hh : ab_hd T (ab_mo M.1) E pc M.2 = some (some hp)) (hs : sp = false) (e : ab_fin G T (d + 1) M hp lv [.ref q] h Q) : ab_bk G T d M pc lv rest sp Q (.inr (E, q)) h := by
  refine ⟨hs, ?_⟩
  rw [hh]
  exact e
theorem ab_bk.pass {rest : List Value} {sp : Bool} {E : String} {q : Nat} (hh : ab_hd T (ab_mo M.1) E pc M.2 = some none) (hs : sp = false) (e : Q (.inr (E, q)) h) : ab_bk G T d M pc lv rest sp Q (.inr (E, q)) h := by
  refine ⟨hs, ?_⟩
  rw [hh]
  exact e
theorem ab_fin.s1i {i : Instr} {k pc' : Nat} {x n : Int32} {r : List Value} (hd : decode (ab_mc M.1) pc = .ok (i, k)) (hs : ab_s1 i k st = some (.int x :: r)) (hx : x = n) (hp : pc + k = pc') (e : ab_fin G T d M pc' lv (.int n :: r) h Q) : ab_fin G T d M pc lv st h Q := by
  subst hx
  exact e.s1 hd hs hp
theorem ab_fin.s1l {i : Instr} {k pc' : Nat} {x n : Int64} {r : List Value} (hd : decode (ab_mc M.1) pc = .ok (i, k)) (hs : ab_s1 i k st = some (.long x :: r)) (hx : x = n) (hp : pc + k = pc') (e : ab_fin G T d M pc' lv (.long n :: r) h Q) : ab_fin G T d M pc lv st h Q := by
  subst hx
  exact e.s1 hd hs hp
/-- iinc: the new number first among the locals -/
theorem ab_fin.inc {i : Instr} {k pc' j : Nat} {x n : Int32} {lv' : ab_L} (hd : decode (ab_mc M.1) pc = .ok (i, k)) (hs : ab_s2 (ab_mL M.1) i k lv st = some ((j, .int x) :: lv', st)) (hx : x = n) (hp : pc + k = pc') (e : ab_fin G T d M pc' ((j, .int n) :: lv') st h Q) : ab_fin G T d M pc lv st h Q := by
  subst hx
  exact e.s2 hd hs hp
theorem ab_fin.s7 {i : Instr} {k pc' : Nat} {st' : List Value} (hd : decode (ab_mc M.1) pc = .ok (i, k)) (hs : ab_s7 (ab_gI G (ab_mo M.1)) (ab_gL G (ab_mo M.1)) i k st = some st') (hp : pc + k = pc') (e : ab_fin G T d M pc' lv st' h Q) : ab_fin G T d M pc lv st h Q := by
  subst hp
  have c := ab_c7 hs
  have n1 : ab_s1 i k st = none := ab_no fun r q => by have := ab_c1 q; omega
  have n2 : ab_s2 (ab_mL M.1) i k lv st = none := ab_no fun r q => by have := ab_c2 q; omega
  have n3 : ab_s3 i k pc st = none := ab_no fun r q => by have := ab_c3 q; omega
  have n4 : ab_s4 (ab_gF G (ab_mo M.1) (ab_mi M.1)) (ab_gO G) h i k st = none := ab_no fun r q => by have := ab_c4 q; omega
  have n5 : ab_s5 (ab_gF G (ab_mo M.1) (ab_mi M.1)) (ab_gO G) (ab_gK G) h i k st = none := ab_no fun r q => by have := ab_c5 q; omega
  have n6 : ab_s6 (ab_gC G (ab_mo M.1)) h i k st = none := ab_no fun r q => by have := ab_c6 q; omega
  exact e.step hd (by simp only [ab_step, n1, n2, n3, n4, n5, n6, hs])
theorem ab_fin.s8 {i : Instr} {k pc' : Nat} {st' : List Value} (hd : decode (ab_mc M.1) pc = .ok (i, k)) (hs : ab_s8 (ab_gX G) (ab_mo M.1) i k st = some st') (h4 : ab_s4 (ab_gF G (ab_mo M.1) (ab_mi M.1)) (ab_gO G) h i k st = none) (h7 : ab_s7 (ab_gI G (ab_mo M.1)) (ab_gL G (ab_mo M.1)) i k st = none) (hp : pc + k = pc') (e : ab_fin G T d M pc' lv st' h Q) : ab_fin G T d M pc lv st h Q := by
  subst hp
  have c := ab_c8 hs
  have n1 : ab_s1 i k st = none := ab_no fun r q => by have := ab_c1 q; omega
  have n2 : ab_s2 (ab_mL M.1) i k lv st = none := ab_no fun r q => by have := ab_c2 q; omega
  have n3 : ab_s3 i k pc st = none := ab_no fun r q => by have := ab_c3 q; omega
  have n5 : ab_s5 (ab_gF G (ab_mo M.1) (ab_mi M.1)) (ab_gO G) (ab_gK G) h i k st = none := ab_no fun r q => by have := ab_c5 q; omega
  have n6 : ab_s6 (ab_gC G (ab_mo M.1)) h i k st = none := ab_no fun r q => by have := ab_c6 q; omega
  exact e.step hd (by simp only [ab_step, n1, n2, n3, h4, n5, n6, h7, hs])
theorem ab_fin.newO {ix ci n pc' : Nat} {fs r : List Value} {h1 : List ab_E} (hd : decode (ab_mc M.1) pc = .ok (.new ix, 3)) (hC : ab_gC G (ab_mo M.1) ix = some (ci, fs)) (hn : h.length = n) (hw : h ++ [.inr (.inr (ci, fs))] = h1) (hp : pc + 3 = pc') (e : ab_fin G T d M pc' lv (.ref n :: r) h1 Q) : ab_fin G T d M pc lv r h Q := by
  subst hp
  subst hn
  subst hw
  have h6 : ab_s6 (ab_gC G (ab_mo M.1)) h (.new ix) 3 r = some (.ref h.length :: r, .inr (.inr (ci, fs))) := by
    simp only [ab_s6, hC, Option.map_some]
  exact e.step hd (by simp only [ab_step, show ab_s1 (.new ix) 3 r = none from rfl, show ab_s2 (ab_mL M.1) (.new ix) 3 lv r = none from rfl, show ab_s3 (.new ix) 3 pc r = none from rfl, show ab_s4 (ab_gF G (ab_mo M.1) (ab_mi M.1)) (ab_gO G) h (.new ix) 3 r = none from rfl, show ab_s5 (ab_gF G (ab_mo M.1) (ab_mi M.1)) (ab_gO G) (ab_gK G) h (.new ix) 3 r = none from rfl, h6])
theorem ab_fin.newA {a : ArrayType} {t n pc' : Nat} {ty : FieldType} {f : Nat → ab_V} {m : Int32} {r : List Value} {h1 : List ab_E} (hd : decode (ab_mc M.1) pc = .ok (.newarray a, 2)) (hA : ab_na a = some (t, ty, f)) (hm : ¬ (m < 0 ∨ 60000000 < m.toNatClampNeg)) (hn : h.length = n) (hw : h ++ [.inr (.inl (t, f m.toNatClampNeg))] = h1) (hp : pc + 2 = pc') (e : ab_fin G T d M pc' lv (.ref n :: r) h1 Q) : ab_fin G T d M pc lv (.int m :: r) h Q := by
  subst hp
  subst hn
  subst hw
  have h6 : ab_s6 (ab_gC G (ab_mo M.1)) h (.newarray a) 2 (.int m :: r) = some (.ref h.length :: r, .inr (.inl (t, f m.toNatClampNeg))) := by
    simp only [ab_s6, hA, Option.bind_some, if_neg hm]
  exact e.step hd (by simp only [ab_step, show ab_s1 (.newarray a) 2 (.int m :: r) = none from rfl, show ab_s2 (ab_mL M.1) (.newarray a) 2 lv (.int m :: r) = none from rfl, show ab_s3 (.newarray a) 2 pc (.int m :: r) = none from rfl, show ab_s4 (ab_gF G (ab_mo M.1) (ab_mi M.1)) (ab_gO G) h (.newarray a) 2 (.int m :: r) = none from rfl, show ab_s5 (ab_gF G (ab_mo M.1) (ab_mi M.1)) (ab_gO G) (ab_gK G) h (.newarray a) 2 (.int m :: r) = none from rfl, h6])
theorem ab_fin.thrN {i : Instr} {k n : Nat} {cls : String} {h1 : List ab_E} (hd : decode (ab_mc M.1) pc = .ok (i, k)) (ht : ab_thr T M pc i k = some cls) (hn : ∀ ix, i = .new ix → ab_gC G (ab_mo M.1) ix = none) (h8 : 8 ≤ d) (hc : ab_cat st ≤ 8) (hl : h.length = n) (hw : h ++ [.inl 6] = h1) (q : Q (.inr (cls, n)) h1) : ab_fin G T (d + 1) M pc lv st h Q := by
  subst hl
  subst hw
  exact ab_fin.thr hd ht hn h8 hc q
theorem ab_fin.cpyv {i : Instr} {k pc' : Nat} {v w : Value} {r : List Value} (hd : decode (ab_mc M.1) pc = .ok (i, k)) (ho : ab_cpy G (ab_mo M.1) h i k st = some (w :: r, h)) (hw : w = v) (hp : pc + 3 = pc') (e : ab_fin G T (d + 1) M pc' lv (v :: r) h Q) : ab_fin G T (d + 1) M pc lv st h Q := by
  subst hw
  exact ab_fin.cpy hd ho hp e
theorem ab_fin.brT {c : Prop} [Decidable c] {i : Instr} {off : Int} {t : Nat} {r : List Value} (hd : decode (ab_mc M.1) pc = .ok (i, 3)) (hs : ab_s3 i 3 pc st = (ab_t pc off).bind (fun t => if c then some (t, r) else some (pc + 3, r))) (ht : ab_t pc off = some t) (hc : c) (e1 : ab_fin G T d M t lv r h Q) : ab_fin G T d M pc lv st h Q := ab_fin.br hd hs ht rfl (fun _ => e1) (fun q => absurd hc q)
theorem ab_fin.brF {c : Prop} [Decidable c] {i : Instr} {off : Int} {t pc' : Nat} {r : List Value} (hd : decode (ab_mc M.1) pc = .ok (i, 3)) (hs : ab_s3 i 3 pc st = (ab_t pc off).bind (fun t => if c then some (t, r) else some (pc + 3, r))) (ht : ab_t pc off = some t) (hp : pc + 3 = pc') (hc : ¬ c) (e2 : ab_fin G T d M pc' lv r h Q) : ab_fin G T d M pc lv st h Q := ab_fin.br hd hs ht hp (fun q => absurd q hc) (fun _ => e2)
end FIN2
theorem ab_gt {pc t : Nat} {off : Int} {r : List Value} (ht : ab_t pc off = some t) : (ab_t pc off).map (fun t => (t, r)) = some (t, r) := by
  rw [ht]
  rfl
theorem ab_sw {c : Prop} [Decidable c] {a b : Option (Nat × List Value)} {v : Nat × List Value} (hc : c) (ha : a = some v) : (if c then a else b) = some v := by
  rw [if_pos hc]
  exact ha
theorem ab_swI {x : Int32} {dflt lo hi off : Int} {offs : Array Int} {k pc t : Nat} {r : List Value} (hc : ¬ (x.toInt < lo ∨ hi < x.toInt)) (ho : offs[(x.toInt - lo).toNat]? = some off) (ht : ab_t pc off = some t) : ab_s3 (.tableswitch dflt lo hi offs) k pc (.int x :: r) = some (t, r) := by
  simp only [ab_s3, if_neg hc, ho, ht]
  rfl
theorem ab_swD {x : Int32} {dflt lo hi : Int} {offs : Array Int} {k pc t : Nat} {r : List Value} (hc : x.toInt < lo ∨ hi < x.toInt) (ht : ab_t pc dflt = some t) : ab_s3 (.tableswitch dflt lo hi offs) k pc (.int x :: r) = some (t, r) := by
  simp only [ab_s3, if_pos hc, ht]
  rfl
theorem ab_bd {α : Type} {l : List α} {n : Nat} {i : Int32} (hl : l.length = n) (hi : ¬ (i < 0 ∨ n ≤ i.toNatClampNeg)) : ¬ (i < 0 ∨ l.length ≤ i.toNatClampNeg) := by
  rw [hl]
  exact hi
theorem ab_ln {x : ab_V} {n : Nat} {m : Int32} (h : ab_len x = n) (hm : Int32.ofNat n = m) : Int32.ofNat (ab_len x) = m := by
  rw [h]
  exact hm
theorem ab_cv {G : ab_G} {o ix y na ci a : Nat} {h : List ab_E} {st r fs As : List Value} (hT : ab_gT G o ix = some (0, y, na, ci)) (hst : st.drop na = .ref a :: r) (ho : h[a]? = some (.inr (.inr (ci, fs)))) (hc : na ≤ st.length ∧ ab_cat r ≤ 8) (hA : .ref a :: (st.take na).reverse = As) : ab_call G o h (.invokevirtual ix) 3 st = some (y, As, r) := by
  subst hA
  simp only [ab_call, hT, hst, ho, hc, and_self, if_pos]
theorem ab_cs {G : ab_G} {o ix y na ci : Nat} {h : List ab_E} {st r As : List Value} (hT : ab_gT G o ix = some (1, y, na, ci)) (hst : st.drop na = r) (hc : na ≤ st.length ∧ ab_cat r ≤ 8) (hA : (st.take na).reverse = As) : ab_call G o h (.invokestatic ix) 3 st = some (y, As, r) := by
  subst hA
  subst hst
  simp only [ab_call, hT, hc, and_self, if_pos]
theorem ab_ci {G : ab_G} {o ix y na ci a s : Nat} {h : List ab_E} {st r As : List Value} (hs : s = 2 ∨ s = 3) (hT : ab_gT G o ix = some (s, y, na, ci)) (hst : st.drop na = .ref a :: r) (hc : na ≤ st.length ∧ ab_cat r ≤ 8) (hA : .ref a :: (st.take na).reverse = As) : ab_call G o h (.invokespecial ix) 3 st = some (y, As, r) := by
  subst hA
  rcases hs with rfl | rfl
  · simp only [ab_call, hT, hst, hc, and_self, if_pos]
  · simp only [ab_call, hT, hst, hc, and_self, if_pos]
theorem ab_c6x {G : ab_G} {o ix y na ci j : Nat} {h : List ab_E} {st r As : List Value} (hT : ab_gT G o ix = some (6, y, na, ci)) (hst : st.drop na = .retAddr j :: r) (hj : (ab_gX G).2.2.2.2.2.1 j = true) (hc : na ≤ st.length ∧ ab_cat r ≤ 8) (hA : .retAddr j :: (st.take na).reverse = As) : ab_call G o h (.invokevirtual ix) 3 st = some (y, As, r) := by
  subst hA
  simp only [ab_call, hT, hst, hj, hc, and_self, if_pos]
theorem ab_cpT {G : ab_G} {o ix y na ci : Nat} {h : List ab_E} {st : List Value} {q : List Value × List ab_E} (hT : ab_gT G o ix = some (5, y, na, ci)) (hc : ab_cp h st = some q) : ab_cpy G o h (.invokestatic ix) 3 st = some q := by
  simp only [ab_cpy, hT, hc]
theorem ab_cpI {h h1 : List ab_E} {a a0 : Nat} {l l0 : List Int32} {n dp sp : Int32} {r : List Value} (hb : h[a0]? = some (.inr (.inl (0, .inl l0)))) (ha : h[a]? = some (.inr (.inl (0, .inl l)))) (hc : ¬ (n < 0 ∨ dp < 0 ∨ sp < 0 ∨ 8 < ab_cat r)) (hi : sp.toNatClampNeg + n.toNatClampNeg ≤ l0.length ∧ dp.toNatClampNeg + n.toNatClampNeg ≤ l.length) (hw : h.set a (.inr (.inl (0, .inl (ab_lay l0 l 0 sp.toNatClampNeg dp.toNatClampNeg n.toNatClampNeg)))) = h1) : ab_cp h (.int n :: .int dp :: .ref a :: .int sp :: .ref a0 :: r) = some (r, h1) := by
  simp only [ab_cp, if_neg hc, ab_arI, hb, ha, if_pos, Option.bind_some, if_pos hi, hw]
theorem ab_x0 {X : ab_X} {o j n : Nat} {f : Nat → Value} {i : Int32} {v : Value} {r : List Value} (hA : X.2.2.2.1 j = some (0, n, f)) (hi : ¬ (i < 0 ∨ n ≤ i.toNatClampNeg)) (hv : f i.toNatClampNeg = v) : ab_s8 X o .iaload 1 (.int i :: .retAddr j :: r) = some (v :: r) := by
  subst hv
  simp only [ab_s8, hA, Option.bind_some, hi, not_false_eq_true, and_self, if_pos]
theorem ab_x2 {X : ab_X} {o j n : Nat} {f : Nat → Value} {i : Int32} {v : Value} {r : List Value} (hA : X.2.2.2.1 j = some (2, n, f)) (hi : ¬ (i < 0 ∨ n ≤ i.toNatClampNeg)) (hv : f i.toNatClampNeg = v) : ab_s8 X o .baload 1 (.int i :: .retAddr j :: r) = some (v :: r) := by
  subst hv
  simp only [ab_s8, hA, Option.bind_some, hi, not_false_eq_true, and_self, if_pos]
theorem ab_goto {pc t : Nat} {off : Int} {r : List Value} (ht : ab_t pc off = some t) : ab_s3 (.goto off) 3 pc r = some (t, r) := ab_gt ht
theorem ab_jn0 {pc t : Nat} {off : Int} {r : List Value} (ht : ab_t pc off = some t) : ab_s3 (.ifnull off) 3 pc (.null :: r) = some (t, r) := ab_gt ht
theorem ab_jn1 {pc t a : Nat} {off : Int} {r : List Value} (ht : ab_t pc off = some t) : ab_s3 (.ifnonnull off) 3 pc (.ref a :: r) = some (t, r) := ab_gt ht
theorem ab_jn2 {pc t a : Nat} {off : Int} {r : List Value} (ht : ab_t pc off = some t) : ab_s3 (.ifnonnull off) 3 pc (.retAddr a :: r) = some (t, r) := ab_gt ht
theorem ab_ev.as {G : ab_G} {T : ab_GT} {d : Nat} {M : ab_MX} {pc : Nat} {lv : ab_L} {st : List Value} {h h1 h2 : List ab_E} {r : ab_RX} (e : ab_ev G T d M pc lv st h r h1) (q : h1 = h2) : ab_ev G T d M pc lv st h r h2 := q ▸ e
theorem ab_klt {α : Type} {l : List α} {k n : Nat} (hl : l.length = n) (hk : k < n) : k < l.length := hl ▸ hk

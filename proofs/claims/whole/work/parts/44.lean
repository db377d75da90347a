/-! WORDS AND RULES FOR PRINTED CONDITIONS (lab.py): what is read and written, by addresses -/
/-- an element -/
def ix {α : Type} (i : Int32) (l : List α) (x : α) : Prop := ¬ i < 0 ∧ l[i.toNatClampNeg]? = some x
theorem ix_bd {α : Type} {i : Int32} {l : List α} {x : α} (q : ix i l x) : ¬ (i < 0 ∨ l.length ≤ i.toNatClampNeg) := by
  rintro (h | h)
  · exact q.1 h
  · have := (List.getElem?_eq_some_iff.mp q.2).1
    omega
theorem ix_get {α : Type} {i : Int32} {l : List α} {x z : α} (q : ix i l x) : l.getD i.toNatClampNeg z = x := by
  rw [List.getD_eq_getElem?_getD, q.2]
  rfl
def oO (h : List ab_E) (a ci : Nat) : Prop := ∃ fs, h[a]? = some (.inr (.inr (ci, fs)))
def rI (h : List ab_E) (a ci k : Nat) (x : Int32) : Prop := ∃ fs, h[a]? = some (.inr (.inr (ci, fs))) ∧ fs[k]? = some (.int x)
def rL (h : List ab_E) (a ci k : Nat) (x : Int64) : Prop := ∃ fs, h[a]? = some (.inr (.inr (ci, fs))) ∧ fs[k]? = some (.long x)
def rA (h : List ab_E) (a ci k : Nat) (b : Nat) : Prop := ∃ fs, h[a]? = some (.inr (.inr (ci, fs))) ∧ fs[k]? = some (.ref b)
def rV (h : List ab_E) (a ci k : Nat) (v : Value) : Prop := ∃ fs, h[a]? = some (.inr (.inr (ci, fs))) ∧ fs[k]? = some v ∧ oR v = some v
def pF (h : List ab_E) (a ci k : Nat) (v : Value) (h1 : List ab_E) : Prop := ∃ fs, h[a]? = some (.inr (.inr (ci, fs))) ∧ k < fs.length ∧ h1 = h.set a (.inr (.inr (ci, fs.set k v)))
def eI (h : List ab_E) (a : Nat) (i x : Int32) : Prop := ∃ l, h[a]? = some (.inr (.inl (0, .inl l))) ∧ ix i l x
def eL (h : List ab_E) (a : Nat) (i : Int32) (x : Int64) : Prop := ∃ l, h[a]? = some (.inr (.inl (1, .inr (.inl l)))) ∧ ix i l x
def eB (h : List ab_E) (a : Nat) (i x : Int32) : Prop := ∃ t l, (t = 2 ∨ t = 3) ∧ h[a]? = some (.inr (.inl (t, .inl l))) ∧ ix i l x
def eA (h : List ab_E) (a : Nat) (i : Int32) (b : Nat) : Prop := ∃ t l, 4 ≤ t ∧ (hb_O (t - 4)).map (fun t => t.isReference) = some true ∧ h[a]? = some (.inr (.inl (t, .inr (.inr l)))) ∧ ix i l (some b)
def eV (h : List ab_E) (a : Nat) (i : Int32) (v : Value) : Prop := ∃ t l o, 4 ≤ t ∧ (hb_O (t - 4)).map (fun t => t.isReference) = some true ∧ h[a]? = some (.inr (.inl (t, .inr (.inr l)))) ∧ ix i l o ∧ v = ab_rf o
def eN (h : List ab_E) (a : Nat) (n : Int32) : Prop := ∃ t x, (t < 4 ∨ (hb_O (t - 4)).isSome = true) ∧ h[a]? = some (.inr (.inl (t, x))) ∧ n = Int32.ofNat (ab_len x)
def sI (h : List ab_E) (a : Nat) (i x : Int32) (h1 : List ab_E) : Prop := ∃ l, h[a]? = some (.inr (.inl (0, .inl l))) ∧ ¬ (i < 0 ∨ l.length ≤ i.toNatClampNeg) ∧ h1 = h.set a (.inr (.inl (0, .inl (l.set i.toNatClampNeg x))))
def sL (h : List ab_E) (a : Nat) (i : Int32) (x : Int64) (h1 : List ab_E) : Prop := ∃ l, h[a]? = some (.inr (.inl (1, .inr (.inl l)))) ∧ ¬ (i < 0 ∨ l.length ≤ i.toNatClampNeg) ∧ h1 = h.set a (.inr (.inl (1, .inr (.inl (l.set i.toNatClampNeg x)))))
def sB (h : List ab_E) (a : Nat) (i x : Int32) (h1 : List ab_E) : Prop := ∃ t l, (t = 2 ∨ t = 3) ∧ h[a]? = some (.inr (.inl (t, .inl l))) ∧ ¬ (i < 0 ∨ l.length ≤ i.toNatClampNeg) ∧ h1 = h.set a (.inr (.inl (t, .inl (l.set i.toNatClampNeg (vp_nar (if t = 2 then .byte else .boolean) x)))))
def sA (h : List ab_E) (a : Nat) (i : Int32) (v : Nat) (h1 : List ab_E) : Prop := ∃ t l ci fs, 4 ≤ t ∧ h[v]? = some (.inr (.inr (ci, fs))) ∧ h[a]? = some (.inr (.inl (t, .inr (.inr l)))) ∧ ¬ (i < 0 ∨ l.length ≤ i.toNatClampNeg) ∧ ((vwCl)[ci]?).map (fun z => FieldType.object z.1) = hb_O (t - 4) ∧ (hb_O (t - 4)).isSome = true ∧ h1 = h.set a (.inr (.inl (t, .inr (.inr (l.set i.toNatClampNeg (some v))))))
/-- what a call comes to -/
abbrev kX : Type := ab_RX → List ab_E → Prop
def jI (X : kX) (R : Int32 → List ab_E → Prop) : kX
  | .inl (some (.int x)), h => R x h
  | .inr p, h => X (.inr p) h
  | _, _ => False
def jL (X : kX) (R : Int64 → List ab_E → Prop) : kX
  | .inl (some (.long x)), h => R x h
  | .inr p, h => X (.inr p) h
  | _, _ => False
def jR (X : kX) (R : Nat → List ab_E → Prop) : kX
  | .inl (some (.ref a)), h => R a h
  | .inr p, h => X (.inr p) h
  | _, _ => False
def jW (X : kX) (R : Value → List ab_E → Prop) : kX
  | .inl (some v), h => oR v = some v ∧ R v h
  | .inr p, h => X (.inr p) h
  | _, _ => False
def jN (X : kX) (R : List ab_E → Prop) : kX
  | .inl none, h => R h
  | .inr p, h => X (.inr p) h
  | _, _ => False
def k0 : kX := fun _ _ => False
section RU3
variable {G : ab_G} {T : ab_GT} {d : Nat} {M : ab_MX} {pc : Nat} {lv : ab_L} {st : List Value} {h : List ab_E} {Q : kX}
theorem ab_fin.q_rI {ix ci k a pc' : Nat} {ty : FieldType} {ok : Bool} {r : List Value} {x : Int32} (hd : decode (ab_mc M.1) pc = .ok (.getfield ix, 3)) (hF : ab_gF G (ab_mo M.1) (ab_mi M.1) ix = some (ci, k, ty, ok)) (q : rI h a ci k x) (hp : pc + 3 = pc') (e : ab_fin G T d M pc' lv (.int x :: r) h Q) : ab_fin G T d M pc lv (.ref a :: r) h Q := by
  obtain ⟨fs, h1, h2⟩ := q
  exact ab_fin.getf hd hF h1 h2 hp e
theorem ab_fin.q_rL {ix ci k a pc' : Nat} {ty : FieldType} {ok : Bool} {r : List Value} {x : Int64} (hd : decode (ab_mc M.1) pc = .ok (.getfield ix, 3)) (hF : ab_gF G (ab_mo M.1) (ab_mi M.1) ix = some (ci, k, ty, ok)) (q : rL h a ci k x) (hp : pc + 3 = pc') (e : ab_fin G T d M pc' lv (.long x :: r) h Q) : ab_fin G T d M pc lv (.ref a :: r) h Q := by
  obtain ⟨fs, h1, h2⟩ := q
  exact ab_fin.getf hd hF h1 h2 hp e
theorem ab_fin.q_rA {ix ci k a b pc' : Nat} {ty : FieldType} {ok : Bool} {r : List Value} (hd : decode (ab_mc M.1) pc = .ok (.getfield ix, 3)) (hF : ab_gF G (ab_mo M.1) (ab_mi M.1) ix = some (ci, k, ty, ok)) (q : rA h a ci k b) (hp : pc + 3 = pc') (e : ab_fin G T d M pc' lv (.ref b :: r) h Q) : ab_fin G T d M pc lv (.ref a :: r) h Q := by
  obtain ⟨fs, h1, h2⟩ := q
  exact ab_fin.getf hd hF h1 h2 hp e
theorem ab_fin.q_rV {ix ci k a pc' : Nat} {ty : FieldType} {ok : Bool} {r : List Value} {v : Value} (hd : decode (ab_mc M.1) pc = .ok (.getfield ix, 3)) (hF : ab_gF G (ab_mo M.1) (ab_mi M.1) ix = some (ci, k, ty, ok)) (q : rV h a ci k v) (hp : pc + 3 = pc') (e : ab_fin G T d M pc' lv (v :: r) h Q) : ab_fin G T d M pc lv (.ref a :: r) h Q := by
  obtain ⟨fs, h1, h2, -⟩ := q
  exact ab_fin.getf hd hF h1 h2 hp e
theorem ab_fin.q_pF {ix ci k a pc' : Nat} {ty : FieldType} {v : Value} {r : List Value} {h1 : List ab_E} (hd : decode (ab_mc M.1) pc = .ok (.putfield ix, 3)) (hF : ab_gF G (ab_mo M.1) (ab_mi M.1) ix = some (ci, k, ty, true)) (q : pF h a ci k v h1) (hn : narrow ty v = v) (hf : fits ty (ab_un v) = true) (hp : pc + 3 = pc') (e : ab_fin G T d M pc' lv r h1 Q) : ab_fin G T d M pc lv (v :: .ref a :: r) h Q := by
  obtain ⟨fs, h2, h3, rfl⟩ := q
  exact ab_fin.putf hd hF h2 h3 hn hf rfl hp e
theorem ab_fin.q_eI {a pc' : Nat} {i x : Int32} {r : List Value} (hd : decode (ab_mc M.1) pc = .ok (.iaload, 1)) (q : eI h a i x) (hp : pc + 1 = pc') (e : ab_fin G T d M pc' lv (.int x :: r) h Q) : ab_fin G T d M pc lv (.int i :: .ref a :: r) h Q := by
  obtain ⟨l, h1, h2⟩ := q
  exact ab_fin.iald hd h1 (ix_bd h2) (ix_get h2) hp e
theorem ab_fin.q_eL {a pc' : Nat} {i : Int32} {x : Int64} {r : List Value} (hd : decode (ab_mc M.1) pc = .ok (.laload, 1)) (q : eL h a i x) (hp : pc + 1 = pc') (e : ab_fin G T d M pc' lv (.long x :: r) h Q) : ab_fin G T d M pc lv (.int i :: .ref a :: r) h Q := by
  obtain ⟨l, h1, h2⟩ := q
  exact ab_fin.lald hd h1 (ix_bd h2) (ix_get h2) hp e
theorem ab_fin.q_eB {a pc' : Nat} {i x : Int32} {r : List Value} (hd : decode (ab_mc M.1) pc = .ok (.baload, 1)) (q : eB h a i x) (hp : pc + 1 = pc') (e : ab_fin G T d M pc' lv (.int x :: r) h Q) : ab_fin G T d M pc lv (.int i :: .ref a :: r) h Q := by
  obtain ⟨t, l, ht, h1, h2⟩ := q
  exact ab_fin.bald hd ht h1 (ix_bd h2) (ix_get h2) hp e
theorem ab_fin.q_sI {a pc' : Nat} {i x : Int32} {r : List Value} {h1 : List ab_E} (hd : decode (ab_mc M.1) pc = .ok (.iastore, 1)) (q : sI h a i x h1) (hp : pc + 1 = pc') (e : ab_fin G T d M pc' lv r h1 Q) : ab_fin G T d M pc lv (.int x :: .int i :: .ref a :: r) h Q := by
  obtain ⟨l, h2, h3, rfl⟩ := q
  exact ab_fin.iast hd h2 h3 rfl hp e
theorem ab_fin.q_sL {a pc' : Nat} {i : Int32} {x : Int64} {r : List Value} {h1 : List ab_E} (hd : decode (ab_mc M.1) pc = .ok (.lastore, 1)) (q : sL h a i x h1) (hp : pc + 1 = pc') (e : ab_fin G T d M pc' lv r h1 Q) : ab_fin G T d M pc lv (.long x :: .int i :: .ref a :: r) h Q := by
  obtain ⟨l, h2, h3, rfl⟩ := q
  exact ab_fin.last hd h2 h3 rfl hp e
theorem ab_fin.q_sB {a pc' : Nat} {i x : Int32} {r : List Value} {h1 : List ab_E} (hd : decode (ab_mc M.1) pc = .ok (.bastore, 1)) (q : sB h a i x h1) (hp : pc + 1 = pc') (e : ab_fin G T d M pc' lv r h1 Q) : ab_fin G T d M pc lv (.int x :: .int i :: .ref a :: r) h Q := by
  obtain ⟨t, l, ht, h2, h3, rfl⟩ := q
  exact ab_fin.bast hd ht h2 h3 rfl hp e
/-- a jump if it is null -/
theorem ab_fin.q_nul {v : Value} {off : Int} {t pc' : Nat} {r : List Value} (hd : decode (ab_mc M.1) pc = .ok (.ifnull off, 3)) (f : oR v = some v) (ht : ab_t pc off = some t) (hp : pc + 3 = pc') (e1 : v = .null → ab_fin G T d M t lv r h Q) (e2 : ¬ v = .null → ab_fin G T d M pc' lv r h Q) : ab_fin G T d M pc lv (v :: r) h Q := by
  subst hp
  cases v with
  | null => exact (e1 rfl).s3 hd (ab_gt ht)
  | ref a => exact (e2 (fun q => by cases q)).s3 hd rfl
  | retAddr a => exact (e2 (fun q => by cases q)).s3 hd rfl
  | _ => cases f
theorem ab_fin.q_nnl {v : Value} {off : Int} {t pc' : Nat} {r : List Value} (hd : decode (ab_mc M.1) pc = .ok (.ifnonnull off, 3)) (f : oR v = some v) (ht : ab_t pc off = some t) (hp : pc + 3 = pc') (e1 : ¬ v = .null → ab_fin G T d M t lv r h Q) (e2 : v = .null → ab_fin G T d M pc' lv r h Q) : ab_fin G T d M pc lv (v :: r) h Q := by
  subst hp
  cases v with
  | null => exact (e2 rfl).s3 hd rfl
  | ref a => exact (e1 (fun q => by cases q)).s3 hd (ab_gt ht)
  | retAddr a => exact (e1 (fun q => by cases q)).s3 hd (ab_gt ht)
  | _ => cases f
/-- a reference put into a local -/
theorem ab_fin.q_stA {i : Instr} {n k pc' : Nat} {v : Value} {r : List Value} {lv' : ab_L} (hi : (∃ m, i = .astore_n m ∧ (m : Nat) = n ∧ k = 1) ∨ (i = .astore n ∧ k = 2)) (hd : decode (ab_mc M.1) pc = .ok (i, k)) (hn : n < ab_mL M.1) (f : oR v = some v) (hl : ab_st1 lv n v = lv') (hp : pc + k = pc') (e : ab_fin G T d M pc' lv' r h Q) : ab_fin G T d M pc lv (v :: r) h Q := by
  subst hl
  refine ab_fin.s2 hd ?_ hp e
  rcases hi with ⟨m, rfl, rfl, rfl⟩ | ⟨rfl, rfl⟩
  · cases v <;> first | (simp only [ab_s2, if_pos hn]; done) | (cases f; done)
  · cases v <;> first | (simp only [ab_s2, if_pos hn]; done) | (cases f; done)
theorem jI_mono {X : kX} {R R' : Int32 → List ab_E → Prop} (q : ∀ x h, R x h → R' x h) : ∀ r h, jI X R r h → jI X R' r h := by
  intro r h e
  unfold jI at e ⊢
  split at e
  · exact q _ _ e
  · exact e
  · cases e
theorem jL_mono {X : kX} {R R' : Int64 → List ab_E → Prop} (q : ∀ x h, R x h → R' x h) : ∀ r h, jL X R r h → jL X R' r h := by
  intro r h e
  unfold jL at e ⊢
  split at e
  · exact q _ _ e
  · exact e
  · cases e
theorem jR_mono {X : kX} {R R' : Nat → List ab_E → Prop} (q : ∀ x h, R x h → R' x h) : ∀ r h, jR X R r h → jR X R' r h := by
  intro r h e
  unfold jR at e ⊢
  split at e
  · exact q _ _ e
  · exact e
  · cases e
theorem jW_mono {X : kX} {R R' : Value → List ab_E → Prop} (q : ∀ x h, oR x = some x → R x h → R' x h) : ∀ r h, jW X R r h → jW X R' r h := by
  intro r h e
  unfold jW at e ⊢
  split at e
  · exact ⟨e.1, q _ _ e.1 e.2⟩
  · exact e
  · cases e
theorem jN_mono {X : kX} {R R' : List ab_E → Prop} (q : ∀ h, R h → R' h) : ∀ r h, jN X R r h → jN X R' r h := by
  intro r h e
  unfold jN at e ⊢
  split at e
  · exact q _ e
  · exact e
  · cases e
/-- what is thrown goes through here -/
def hX (X : kX) (G : ab_G) (T : ab_GT) (d : Nat) (M : ab_MX) (pc : Nat) (lv : ab_L) (rest : List Value) (sp : Bool) (Q : kX) : Prop := ∀ p h, X (.inr p) h → ab_bk G T d M pc lv rest sp Q (.inr p) h
theorem hX_no {rest : List Value} (hh : ∀ E, ab_hd T (ab_mo M.1) E pc M.2 = some none) : hX Q G T d M pc lv rest false Q := by
  intro p h q
  refine ⟨rfl, ?_⟩
  rw [hh]
  exact q
theorem hX_k0 {rest : List Value} {sp : Bool} : hX k0 G T d M pc lv rest sp Q := by
  intro p h q
  cases q
theorem hX_bk {rest : List Value} {sp : Bool} : hX (ab_bk G T d M pc lv rest sp Q) G T d M pc lv rest sp Q := fun _ _ q => q
theorem ab_fin.q_jI {i : Instr} {k y pc' : Nat} {As rest : List Value} {M' : ab_MX} {lv2 : ab_L} {X : kX} (hd : decode (ab_mc M.1) pc = .ok (i, k)) (hc : ab_call G (ab_mo M.1) h i k st = some (y, As, rest)) (hM : ab_mx G T y = some M') (hl : (lg_sl As).length ≤ ab_mL M'.1) (hlv : lv_args 0 As = lv2) (hp : pc + 3 = pc') (hx : hX X G T d M pc lv rest (ab_sp i) Q) (e : ab_fin G T d M' 0 lv2 [] h (jI X fun x h1 => ab_fin G T (d + 1) M pc' lv (.int x :: rest) h1 Q)) : ab_fin G T (d + 1) M pc lv st h Q := by
  subst hlv
  subst hp
  refine ab_fin.call hd hc hM hl (e.mono fun r h1 q => ?_)
  unfold jI at q
  split at q
  · exact q
  · exact hx _ _ q
  · cases q
theorem ab_fin.q_jL {i : Instr} {k y pc' : Nat} {As rest : List Value} {M' : ab_MX} {lv2 : ab_L} {X : kX} (hd : decode (ab_mc M.1) pc = .ok (i, k)) (hc : ab_call G (ab_mo M.1) h i k st = some (y, As, rest)) (hM : ab_mx G T y = some M') (hl : (lg_sl As).length ≤ ab_mL M'.1) (hlv : lv_args 0 As = lv2) (hp : pc + 3 = pc') (hx : hX X G T d M pc lv rest (ab_sp i) Q) (e : ab_fin G T d M' 0 lv2 [] h (jL X fun x h1 => ab_fin G T (d + 1) M pc' lv (.long x :: rest) h1 Q)) : ab_fin G T (d + 1) M pc lv st h Q := by
  subst hlv
  subst hp
  refine ab_fin.call hd hc hM hl (e.mono fun r h1 q => ?_)
  unfold jL at q
  split at q
  · exact q
  · exact hx _ _ q
  · cases q
theorem ab_fin.q_jR {i : Instr} {k y pc' : Nat} {As rest : List Value} {M' : ab_MX} {lv2 : ab_L} {X : kX} (hd : decode (ab_mc M.1) pc = .ok (i, k)) (hc : ab_call G (ab_mo M.1) h i k st = some (y, As, rest)) (hM : ab_mx G T y = some M') (hl : (lg_sl As).length ≤ ab_mL M'.1) (hlv : lv_args 0 As = lv2) (hp : pc + 3 = pc') (hx : hX X G T d M pc lv rest (ab_sp i) Q) (e : ab_fin G T d M' 0 lv2 [] h (jR X fun x h1 => ab_fin G T (d + 1) M pc' lv (.ref x :: rest) h1 Q)) : ab_fin G T (d + 1) M pc lv st h Q := by
  subst hlv
  subst hp
  refine ab_fin.call hd hc hM hl (e.mono fun r h1 q => ?_)
  unfold jR at q
  split at q
  · exact q
  · exact hx _ _ q
  · cases q
theorem ab_fin.q_jW {i : Instr} {k y pc' : Nat} {As rest : List Value} {M' : ab_MX} {lv2 : ab_L} {X : kX} (hd : decode (ab_mc M.1) pc = .ok (i, k)) (hc : ab_call G (ab_mo M.1) h i k st = some (y, As, rest)) (hM : ab_mx G T y = some M') (hl : (lg_sl As).length ≤ ab_mL M'.1) (hlv : lv_args 0 As = lv2) (hp : pc + 3 = pc') (hx : hX X G T d M pc lv rest (ab_sp i) Q) (e : ab_fin G T d M' 0 lv2 [] h (jW X fun x h1 => ab_fin G T (d + 1) M pc' lv (x :: rest) h1 Q)) : ab_fin G T (d + 1) M pc lv st h Q := by
  subst hlv
  subst hp
  refine ab_fin.call hd hc hM hl (e.mono fun r h1 q => ?_)
  unfold jW at q
  split at q
  · exact q.2
  · exact hx _ _ q
  · cases q
theorem ab_fin.q_jN {i : Instr} {k y pc' : Nat} {As rest : List Value} {M' : ab_MX} {lv2 : ab_L} {X : kX} (hd : decode (ab_mc M.1) pc = .ok (i, k)) (hc : ab_call G (ab_mo M.1) h i k st = some (y, As, rest)) (hM : ab_mx G T y = some M') (hl : (lg_sl As).length ≤ ab_mL M'.1) (hlv : lv_args 0 As = lv2) (hp : pc + 3 = pc') (hx : hX X G T d M pc lv rest (ab_sp i) Q) (e : ab_fin G T d M' 0 lv2 [] h (jN X fun h1 => ab_fin G T (d + 1) M pc' lv rest h1 Q)) : ab_fin G T (d + 1) M pc lv st h Q := by
  subst hlv
  subst hp
  refine ab_fin.call hd hc hM hl (e.mono fun r h1 q => ?_)
  unfold jN at q
  split at q
  · exact q
  · exact hx _ _ q
  · cases q
/-- a throw of an object -/
theorem ab_fin.q_ath {a : Nat} {E : String} {r : List Value} {X : kX} (hd : decode (ab_mc M.1) pc = .ok (.athrow, 1)) (ha : ab_ath G h .athrow 1 (.ref a :: r) = some (E, a)) (hx : hX X G T d M pc lv [] false Q) (q : X (.inr (E, a)) h) : ab_fin G T (d + 1) M pc lv (.ref a :: r) h Q := by
  have q := (hx _ _ q).2
  split at q
  · rename_i hp hh
    obtain ⟨r2, h2, e, q⟩ := q
    exact ⟨_, _, ab_ev.ath hd ha hh e, q⟩
  · rename_i hh
    exact ab_fin.athX hd ha hh q
  · cases q
end RU3
theorem ab_fin.s9h {G : ab_G} {T : ab_GT} {d : Nat} {M : ab_MX} {pc : Nat} {lv : ab_L} {st : List Value} {h : List ab_E} {Q : kX} {i : Instr} {k pc' : Nat} {st' : List Value} (hi : ab_c i = 9) (hd : decode (ab_mc M.1) pc = .ok (i, k)) (hs : ab_s9 (ab_gX G) (ab_gO G) (ab_mo M.1) h i k pc st = some (pc', st', h)) (e : ab_fin G T d M pc' lv st' h Q) : ab_fin G T d M pc lv st h Q := by
  refine e.step hd ?_
  unfold ab_step
  rw [show ab_s1 i k st = none from ab_no fun r q => by have := ab_c1 q; omega, show ab_s2 (ab_mL M.1) i k lv st = none from ab_no fun r q => by have := ab_c2 q; omega, show ab_s3 i k pc st = none from ab_no fun r q => by have := ab_c3 q; omega, show ab_s4 (ab_gF G (ab_mo M.1) (ab_mi M.1)) (ab_gO G) h i k st = none from ab_no fun r q => by have := ab_c4 q; omega, show ab_s5 (ab_gF G (ab_mo M.1) (ab_mi M.1)) (ab_gO G) (ab_gK G) h i k st = none from ab_no fun r q => by have := ab_c5 q; omega, show ab_s6 (ab_gC G (ab_mo M.1)) h i k st = none from ab_no fun r q => by have := ab_c6 q; omega, show ab_s7 (ab_gI G (ab_mo M.1)) (ab_gL G (ab_mo M.1)) i k st = none from ab_no fun r q => by have := ab_c7 q; omega, show ab_s8 (ab_gX G) (ab_mo M.1) i k st = none from ab_no fun r q => by have := ab_c8 q; omega]
  simp only [hs]
theorem nR_n {s : String} {v : Value} (f : oR v = some v) : narrow (.object s) v = v := by
  cases v <;> first | rfl | (cases f; done)
theorem nR_f {s : String} {v : Value} (f : oR v = some v) : fits (.object s) (ab_un v) = true := by
  cases v <;> first | rfl | (cases f; done)
theorem ab_fin.q_retN {G : ab_G} {T : ab_GT} {d : Nat} {M : ab_MX} {pc : Nat} {lv : ab_L} {h : List ab_E} {Q : kX} {x : Int32} {ty : FieldType} {r : List Value} (hd : decode (ab_mc M.1) pc = .ok (.ireturn, 1)) (hr : ab_ret (ab_mr M.1) .ireturn 1 (.int x :: r) = if narrow ty (.int x) = .int x then some (some (.int x)) else none) (hn : narrow ty (.int x) = .int x) (q : Q (.inl (some (.int x))) h) : ab_fin G T d M pc lv (.int x :: r) h Q := ab_fin.ret _ hd (by rw [hr, if_pos hn]) q
section RU4
variable {z : Option Value × Option Value × Option Value} {x0 : Option (Nat × Nat × (Nat → Value))} {T : ab_GT} {d : Nat} {M : ab_MX} {pc : Nat} {lv : ab_L} {st : List Value} {h : List ab_E} {Q : kX}
theorem ab_fin.q_eA {a b pc' : Nat} {i : Int32} {r : List Value} (hd : decode (ab_mc M.1) pc = .ok (.aaload, 1)) (q : eA h a i b) (hp : pc + 1 = pc') (e : ab_fin (hb_Gz z x0) T d M pc' lv (.ref b :: r) h Q) : ab_fin (hb_Gz z x0) T d M pc lv (.int i :: .ref a :: r) h Q := by
  obtain ⟨t, l, ht, ho, h1, h2⟩ := q
  exact ab_fin.aald hd h1 ht ho (ix_bd h2) (by rw [ix_get h2]; rfl) hp e
theorem ab_fin.q_eV {a pc' : Nat} {i : Int32} {v : Value} {r : List Value} (hd : decode (ab_mc M.1) pc = .ok (.aaload, 1)) (q : eV h a i v) (hp : pc + 1 = pc') (e : ab_fin (hb_Gz z x0) T d M pc' lv (v :: r) h Q) : ab_fin (hb_Gz z x0) T d M pc lv (.int i :: .ref a :: r) h Q := by
  obtain ⟨t, l, o, ht, ho, h1, h2, rfl⟩ := q
  exact ab_fin.aald hd h1 ht ho (ix_bd h2) (by rw [ix_get h2]) hp e
theorem ab_fin.q_eN {a pc' : Nat} {n : Int32} {r : List Value} (hd : decode (ab_mc M.1) pc = .ok (.arraylength, 1)) (q : eN h a n) (hp : pc + 1 = pc') (e : ab_fin (hb_Gz z x0) T d M pc' lv (.int n :: r) h Q) : ab_fin (hb_Gz z x0) T d M pc lv (.ref a :: r) h Q := by
  obtain ⟨t, x, ht, h1, rfl⟩ := q
  exact ab_fin.alen hd h1 ht rfl hp e
theorem ab_fin.q_sA {a v pc' : Nat} {i : Int32} {r : List Value} {h1 : List ab_E} (hd : decode (ab_mc M.1) pc = .ok (.aastore, 1)) (q : sA h a i v h1) (hp : pc + 1 = pc') (e : ab_fin (hb_Gz z x0) T d M pc' lv r h1 Q) : ab_fin (hb_Gz z x0) T d M pc lv (.ref v :: .int i :: .ref a :: r) h Q := by
  obtain ⟨t, l, ci, fs, ht, hv, ho, hi, hc, hc2, rfl⟩ := q
  exact ab_fin.aast hd hv ho ht hi ⟨hc, hc2⟩ rfl hp e
/-- the same reference? -/
theorem ab_fin.q_aeq {a b : Nat} {off : Int} {t pc' : Nat} {r : List Value} (hd : decode (ab_mc M.1) pc = .ok (.if_acmp .eq off, 3)) (ht : ab_t pc off = some t) (hp : pc + 3 = pc') (e1 : a = b → ab_fin (hb_Gz z x0) T d M t lv r h Q) (e2 : ¬ a = b → ab_fin (hb_Gz z x0) T d M pc' lv r h Q) : ab_fin (hb_Gz z x0) T d M pc lv (.ref b :: .ref a :: r) h Q := by
  subst hp
  by_cases g : a = b
  · refine ab_fin.s9h (pc' := t) (st' := r) rfl hd ?_ (e1 g)
    simp only [ab_s9, ab_aeq, Option.bind_some, ht, decide_eq_true g, if_pos]
  · refine ab_fin.s9h (pc' := pc + 3) (st' := r) rfl hd ?_ (e2 g)
    simp only [ab_s9, ab_aeq, Option.bind_some, ht, decide_eq_false g, Bool.false_eq_true, if_false]
theorem ab_fin.q_ane {a b : Nat} {off : Int} {t pc' : Nat} {r : List Value} (hd : decode (ab_mc M.1) pc = .ok (.if_acmp .ne off, 3)) (ht : ab_t pc off = some t) (hp : pc + 3 = pc') (e1 : ¬ a = b → ab_fin (hb_Gz z x0) T d M t lv r h Q) (e2 : a = b → ab_fin (hb_Gz z x0) T d M pc' lv r h Q) : ab_fin (hb_Gz z x0) T d M pc lv (.ref b :: .ref a :: r) h Q := by
  subst hp
  by_cases g : a = b
  · refine ab_fin.s9h (pc' := pc + 3) (st' := r) rfl hd ?_ (e2 g)
    simp only [ab_s9, ab_aeq, Option.bind_some, ht, decide_eq_true g, if_pos]
  · refine ab_fin.s9h (pc' := t) (st' := r) rfl hd ?_ (e1 g)
    simp only [ab_s9, ab_aeq, Option.bind_some, ht, decide_eq_false g, Bool.false_eq_true, if_false]
end RU4

/-! numbers, categories, the rest -/
abbrev zT : Type := (Option Value × Option Value × Option Value) × (Nat × Nat × (Nat → Value))
def irm (x y : Int32) : Int32 := x - x / y * y
theorem cR1 (a : Nat) : (Value.ref a).category = 1 := rfl
theorem cN1 : Value.null.category = 1 := rfl
theorem cX1 (a : Nat) : (Value.retAddr a).category = 1 := rfl
theorem lg_cnt (vs : List Value) : (lg_sl vs).length = (vs.map fun v => if v.category = 2 then 2 else 1).sum := by
  unfold lg_sl
  rw [List.length_flatMap]
  congr 1
  refine List.map_congr_left fun v _ => ?_
  split <;> rfl
theorem rV_f {h : List ab_E} {a ci k : Nat} {v : Value} (q : rV h a ci k v) : oR v = some v := by
  obtain ⟨fs, -, -, f⟩ := q
  exact f
theorem eV_f {h : List ab_E} {a : Nat} {i : Int32} {v : Value} (q : eV h a i v) : oR v = some v := by
  obtain ⟨t, l, o, -, -, -, -, rfl⟩ := q
  cases o <;> rfl
/-- an element of a row of numbers that was there before -/
def xJ0 (j : Nat) (i x : Int32) : Prop := xI j 0 i = some (.int x)
def xJ1 (j : Nat) (i : Int32) (x : Int64) : Prop := xI j 1 i = some (.long x)
theorem lsw_df {ps : List (Int × Int)} {dflt k : Int} (hp : ∀ p ∈ ps, p.1 ≠ k) : Op.lookupswitch.offset ps dflt k = dflt := by
  unfold Op.lookupswitch.offset
  have : ps.find? (fun p => p.1 == k) = none := by
    rw [List.find?_eq_none]
    intro p hp2 q
    exact hp p hp2 (eq_of_beq q)
  first
  | (simp only [this]; done)
  | (rw [this]; rfl)
  | skip
section RU5
variable {G : ab_G} {T : ab_GT} {d : Nat} {M : ab_MX} {pc : Nat} {lv : ab_L} {h : List ab_E} {Q : kX}
theorem ab_fin.q_inc {n pc' : Nat} {c : Int} {x y : Int32} {st : List Value} {lv' : ab_L} (hd : decode (ab_mc M.1) pc = .ok (.iinc n c, 3)) (hn : n < ab_mL M.1) (hx : ab_at lv n = some (.int x)) (hc : x + Int32.ofInt c = y) (hl : ab_st1 lv n (.int y) = lv') (hp : pc + 3 = pc') (e : ab_fin G T d M pc' lv' st h Q) : ab_fin G T d M pc lv st h Q := by
  subst hc
  subst hl
  exact ab_fin.s2 hd (by simp only [ab_s2, hx, if_pos hn]) hp e
theorem ab_fin.q_div {pc' : Nat} {x y : Int32} {r : List Value} (hd : decode (ab_mc M.1) pc = .ok (.idiv, 1)) (hy : ¬ y = 0) (hp : pc + 1 = pc') (e : ab_fin G T d M pc' lv (.int (x / y) :: r) h Q) : ab_fin G T d M pc lv (.int y :: .int x :: r) h Q := ab_fin.s1 hd (by simp only [ab_s1, if_neg hy]) hp e
theorem ab_fin.q_rem {pc' : Nat} {x y : Int32} {r : List Value} (hd : decode (ab_mc M.1) pc = .ok (.irem, 1)) (hy : ¬ y = 0) (hp : pc + 1 = pc') (e : ab_fin G T d M pc' lv (.int (irm x y) :: r) h Q) : ab_fin G T d M pc lv (.int y :: .int x :: r) h Q := ab_fin.s1 hd (by simp only [ab_s1, if_neg hy, irm]) hp e
theorem ab_fin.q_stI {i : Instr} {n k pc' : Nat} {x : Int32} {r : List Value} {lv' : ab_L} (hi : (∃ m, i = .istore_n m ∧ (m : Nat) = n ∧ k = 1) ∨ (i = .istore n ∧ k = 2)) (hd : decode (ab_mc M.1) pc = .ok (i, k)) (hn : n < ab_mL M.1) (hl : ab_st1 lv n (.int x) = lv') (hp : pc + k = pc') (e : ab_fin G T d M pc' lv' r h Q) : ab_fin G T d M pc lv (.int x :: r) h Q := by
  subst hl
  refine ab_fin.s2 hd ?_ hp e
  rcases hi with ⟨m, rfl, rfl, rfl⟩ | ⟨rfl, rfl⟩
  · simp only [ab_s2, if_pos hn]
  · simp only [ab_s2, if_pos hn]
theorem ab_fin.q_stL {i : Instr} {n k pc' : Nat} {x : Int64} {r : List Value} {lv' : ab_L} (hi : (∃ m, i = .lstore_n m ∧ (m : Nat) = n ∧ k = 1) ∨ (i = .lstore n ∧ k = 2)) (hd : decode (ab_mc M.1) pc = .ok (i, k)) (hn : n + 1 < ab_mL M.1) (hl : ab_st2 lv n (.long x) = lv') (hp : pc + k = pc') (e : ab_fin G T d M pc' lv' r h Q) : ab_fin G T d M pc lv (.long x :: r) h Q := by
  subst hl
  refine ab_fin.s2 hd ?_ hp e
  rcases hi with ⟨m, rfl, rfl, rfl⟩ | ⟨rfl, rfl⟩
  · simp only [ab_s2, if_pos hn]
  · simp only [ab_s2, if_pos hn]
end RU5
section RU6
variable {z : Option Value × Option Value × Option Value} {x0 : Nat × Nat × (Nat → Value)} {T : ab_GT} {d : Nat} {M : ab_MX} {pc : Nat} {lv : ab_L} {h : List ab_E} {Q : kX}
theorem ab_fin.q_x0 {j pc' : Nat} {i x : Int32} {r : List Value} (hd : decode (ab_mc M.1) pc = .ok (.iaload, 1)) (q : xJ0 j i x) (hp : pc + 1 = pc') (e : ab_fin (hb_Gz z (some x0)) T d M pc' lv (.int x :: r) h Q) : ab_fin (hb_Gz z (some x0)) T d M pc lv (.int i :: .retAddr j :: r) h Q := by
  unfold xJ0 xI at q
  obtain ⟨q1, h3, h4⟩ := Option.bind_eq_some_iff.mp q
  split at h4
  · rename_i hc
    refine ab_fin.s8 (st' := .int x :: r) hd ?_ rfl rfl hp e
    have h5 := hb_amono (x := x0) _ _ h3
    show ((hb_Xa (some x0) j).bind fun q => if q.1 = 0 ∧ ¬ (i < 0 ∨ q.2.1 ≤ i.toNatClampNeg) then some (q.2.2 i.toNatClampNeg :: r) else none) = _
    rw [h5]
    simp only [Option.bind_some, if_pos hc]
    rw [Option.some.inj h4]
  · cases h4
theorem ab_fin.q_x1 {j pc' : Nat} {i : Int32} {x : Int64} {r : List Value} (hd : decode (ab_mc M.1) pc = .ok (.laload, 1)) (q : xJ1 j i x) (hp : pc + 1 = pc') (e : ab_fin (hb_Gz z (some x0)) T d M pc' lv (.long x :: r) h Q) : ab_fin (hb_Gz z (some x0)) T d M pc lv (.int i :: .retAddr j :: r) h Q := by
  unfold xJ1 xI at q
  obtain ⟨q1, h3, h4⟩ := Option.bind_eq_some_iff.mp q
  split at h4
  · rename_i hc
    refine ab_fin.s8 (st' := .long x :: r) hd ?_ rfl rfl hp e
    have h5 := hb_amono (x := x0) _ _ h3
    show ((hb_Xa (some x0) j).bind fun q => if q.1 = 1 ∧ ¬ (i < 0 ∨ q.2.1 ≤ i.toNatClampNeg) then some (q.2.2 i.toNatClampNeg :: r) else none) = _
    rw [h5]
    simp only [Option.bind_some, if_pos hc]
    rw [Option.some.inj h4]
  · cases h4
end RU6

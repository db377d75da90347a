/-! A HEAP AS FUNCTIONS: from the heap itself -/
def unS : ab_E → Sh
  | .inl n => Sh.jnk n
  | .inr (.inl (t, x)) => Sh.arr t (ab_len x)
  | .inr (.inr (ci, _)) => Sh.obj ci
def unI (e : Option ab_E) (k : Nat) : Int32 := match e with
  | some (.inr (.inr (_, fs))) => (match fs[k]? with
    | some (.int x) => x
    | _ => 0)
  | some (.inr (.inl (_, .inl l))) => l.getD k 0
  | _ => 0
def unL (e : Option ab_E) (k : Nat) : Int64 := match e with
  | some (.inr (.inr (_, fs))) => (match fs[k]? with
    | some (.long x) => x
    | _ => 0)
  | some (.inr (.inl (_, .inr (.inl l)))) => l.getD k 0
  | _ => 0
def unR (e : Option ab_E) (k : Nat) : Rf := match e with
  | some (.inr (.inr (_, fs))) => (match fs[k]? with
    | some (.ref a) => Rf.ptr a
    | some (.retAddr j) => Rf.old j
    | _ => Rf.nul)
  | some (.inr (.inl (_, .inr (.inr l)))) => (match l.getD k none with
    | some a => Rf.ptr a
    | none => Rf.nul)
  | _ => Rf.nul
def unc (h : List ab_E) : Sg := (h.map unS, fun a k => unI h[a]? k, fun a k => unL h[a]? k, fun a k => unR h[a]? k)
def okFd : Nat → Value → Bool
  | 0, .int _ => true
  | 1, .long _ => true
  | 2, .ref _ => true
  | 2, .null => true
  | 2, .retAddr _ => true
  | _, _ => false
def okFs : List Nat → List Value → Bool
  | [], [] => true
  | t :: ts, v :: vs => okFd t v && okFs ts vs
  | _, _ => false
def okE : ab_E → Bool
  | .inl _ => true
  | .inr (.inl (t, .inl _)) => t == 0 || (t == 2 || t == 3)
  | .inr (.inl (t, .inr (.inl _))) => t == 1
  | .inr (.inl (t, .inr (.inr _))) => decide (4 ≤ t)
  | .inr (.inr (ci, fs)) => okFs (sg_ft ci) fs
theorem okFs_at : ∀ {ts : List Nat} {vs : List Value}, okFs ts vs = true → ts.length = vs.length ∧ ∀ (k : Nat) t v, ts[k]? = some t → vs[k]? = some v → okFd t v = true
  | [], [], _ => ⟨rfl, fun k t v h => by cases h⟩
  | [], _ :: _, h => by cases h
  | _ :: _, [], h => by cases h
  | t :: ts, v :: vs, h => by
    rw [okFs, Bool.and_eq_true] at h
    obtain ⟨e1, e2⟩ := okFs_at h.2
    refine ⟨by rw [List.length_cons, List.length_cons, e1], fun k t' v' h1 h2 => ?_⟩
    cases k with
    | zero =>
      injection h1 with h1
      injection h2 with h2
      subst h1
      subst h2
      exact h.1
    | succ k => exact e2 k t' v' h1 h2
theorem rg_map {α : Type} (l : List α) (d : α) {n : Nat} (hn : n = l.length) : (List.range n).map (fun k => l.getD k d) = l := by
  subst hn
  apply List.ext_getElem?
  intro k
  rw [List.getElem?_map]
  by_cases h : k < l.length
  · rw [List.getElem?_range h, List.getElem?_eq_getElem h]
    simp [List.getD, List.getElem?_eq_getElem h]
  · rw [List.getElem?_eq_none (by rw [List.length_range]; omega), List.getElem?_eq_none (by omega)]
    rfl
theorem sg_un {h : List ab_E} {a : Nat} {e : ab_E} (ha : h[a]? = some e) (ok : okE e = true) : sg_c (unc h) a (unS e) = e := by
  have ei : (unc h).i a = unI (some e) := by
    show (fun k => unI h[a]? k) = _
    rw [ha]
  have el : (unc h).l a = unL (some e) := by
    show (fun k => unL h[a]? k) = _
    rw [ha]
  have er : (unc h).r a = unR (some e) := by
    show (fun k => unR h[a]? k) = _
    rw [ha]
  rcases e with n | ⟨t, l | l | l⟩ | ⟨ci, fs⟩
  · rfl
  · show (.inr (.inl (t, sg_a (unc h) a l.length t)) : ab_E) = _
    have e2 : (List.range l.length).map ((unc h).i a) = l := by
      rw [ei]
      exact rg_map l 0 rfl
    have ok2 : t = 0 ∨ t = 2 ∨ t = 3 := by
      simpa [okE] using ok
    rcases ok2 with rfl | rfl | rfl
    · show (.inr (.inl (0, .inl ((List.range l.length).map ((unc h).i a)))) : ab_E) = _
      rw [e2]
    · show (.inr (.inl (2, .inl ((List.range l.length).map ((unc h).i a)))) : ab_E) = _
      rw [e2]
    · show (.inr (.inl (3, .inl ((List.range l.length).map ((unc h).i a)))) : ab_E) = _
      rw [e2]
  · show (.inr (.inl (t, sg_a (unc h) a l.length t)) : ab_E) = _
    have ok2 : t = 1 := by simpa [okE] using ok
    subst ok2
    show (.inr (.inl (1, .inr (.inl ((List.range l.length).map ((unc h).l a))))) : ab_E) = _
    rw [el, show (List.range l.length).map (unL (some (.inr (.inl (1, .inr (.inl l)))))) = l from rg_map l 0 rfl]
  · show (.inr (.inl (t, sg_a (unc h) a l.length t)) : ab_E) = _
    have ok2 : 4 ≤ t := by simpa [okE] using ok
    have e2 : (List.range l.length).map (fun k => rfo ((unc h).r a k)) = l := by
      rw [er]
      refine Eq.trans (List.map_congr_left fun k _ => ?_) (rg_map l none rfl)
      show rfo (match l.getD k none with
        | some a => Rf.ptr a
        | none => Rf.nul) = _
      cases l.getD k none <;> rfl
    unfold sg_a
    split <;> first | omega | (rw [e2])
  · show (.inr (.inr (ci, sg_o (unc h) a ci)) : ab_E) = _
    obtain ⟨o1, o2⟩ := okFs_at (show okFs (sg_ft ci) fs = true from ok)
    have e2 : sg_o (unc h) a ci = fs := by
      unfold sg_o
      apply List.ext_getElem?
      intro k
      rw [List.getElem?_mapIdx]
      cases ht : (sg_ft ci)[k]? with
      | none =>
        have := List.getElem?_eq_none_iff.mp ht
        rw [List.getElem?_eq_none (by omega)]
        rfl
      | some ty =>
        have hk := (List.getElem?_eq_some_iff.mp ht).1
        have hv : fs[k]? = some fs[k] := List.getElem?_eq_getElem (by omega)
        have o3 := o2 k ty _ ht hv
        rw [hv]
        show some (sg_f (unc h) a k ty) = _
        congr 1
        have ei2 : (unc h).i a k = (match fs[k]? with
          | some (.int x) => x
          | _ => 0) := by rw [ei]; rfl
        have el2 : (unc h).l a k = (match fs[k]? with
          | some (.long x) => x
          | _ => 0) := by rw [el]; rfl
        have er2 : (unc h).r a k = (match fs[k]? with
          | some (.ref a) => Rf.ptr a
          | some (.retAddr j) => Rf.old j
          | _ => Rf.nul) := by rw [er]; rfl
        rw [hv] at ei2 el2 er2
        generalize fs[k]'(by omega) = v at o3 ei2 el2 er2
        unfold okFd at o3
        split at o3
        · show Value.int ((unc h).i a k) = _
          rw [ei2]
        · show Value.long ((unc h).l a k) = _
          rw [el2]
        · show rv ((unc h).r a k) = _
          rw [er2]
          rfl
        · show rv ((unc h).r a k) = _
          rw [er2]
          rfl
        · show rv ((unc h).r a k) = _
          rw [er2]
          rfl
        · cases o3
    rw [e2]
theorem conc_unc {h : List ab_E} (ok : h.all okE = true) : conc (unc h) = h := by
  apply List.ext_getElem?
  intro a
  unfold conc
  rw [List.getElem?_mapIdx, show (unc h).sh[a]? = (h[a]?).map unS from List.getElem?_map]
  cases ha : h[a]? with
  | none => rfl
  | some e =>
    show some (sg_c (unc h) a (unS e)) = some e
    rw [sg_un ha (List.all_eq_true.mp ok e (List.mem_of_getElem? ha))]

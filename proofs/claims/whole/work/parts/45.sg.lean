/-! A HEAP BY FUNCTIONS: shapes, numbers, references (what is read and written are numbers at places) -/
abbrev Sh : Type := Nat ⊕ ((Nat × Nat) ⊕ Nat)
abbrev Sh.obj (ci : Nat) : Sh := .inl ci
abbrev Sh.arr (t n : Nat) : Sh := .inr (.inl (t, n))
abbrev Sh.jnk (n : Nat) : Sh := .inr (.inr n)
abbrev Rf : Type := Option (Nat ⊕ Nat)
abbrev Rf.nul : Rf := none
abbrev Rf.ptr (a : Nat) : Rf := some (.inl a)
abbrev Rf.old (j : Nat) : Rf := some (.inr j)
def rv : Rf → Value
  | none => .null
  | some (.inl a) => .ref a
  | some (.inr j) => .retAddr j
def rfo : Rf → Option Nat
  | some (.inl a) => some a
  | _ => none
theorem oR_rv (x : Rf) : oR (rv x) = some (rv x) := by rcases x with _ | a | j <;> rfl
theorem rv_null {x : Rf} : rv x = .null ↔ x = Rf.nul := by rcases x with _ | a | j <;> simp [rv]
abbrev Sg : Type := List Sh × (Nat → Nat → Int32) × (Nat → Nat → Int64) × (Nat → Nat → Rf)
abbrev Sg.sh (σ : Sg) : List Sh := σ.1
abbrev Sg.i (σ : Sg) : Nat → Nat → Int32 := σ.2.1
abbrev Sg.l (σ : Sg) : Nat → Nat → Int64 := σ.2.2.1
abbrev Sg.r (σ : Sg) : Nat → Nat → Rf := σ.2.2.2
/-- the sorts of the fields of a class: 0 int, 1 long, 2 reference -/
def sg_ft : Nat → List Nat
  | 0 => [0, 2, 0]
  | 1 => [2, 2, 2, 0, 0, 2, 2, 2, 2, 2, 2, 2, 0, 1, 1, 2, 2]
  | 2 => [2, 2, 2, 0, 0]
  | 3 => [2, 2, 2, 2, 0, 2, 2, 2]
  | 4 => [2, 2, 2, 2, 2, 2, 2, 2, 2, 2, 2, 0, 0]
  | 5 => [2, 2, 2, 2, 2, 0, 0, 0, 0, 0, 1, 0, 0, 1, 0, 2, 0, 2, 0]
  | 6 => [0, 2, 2, 2, 2, 2, 2, 2, 2, 2, 2, 2, 2, 2]
  | 7 => [2, 2, 0, 2]
  | 8 => [2, 2, 0, 0, 0, 0, 0, 0, 0, 0, 0, 0, 1]
  | 9 => [2, 2, 2, 2, 0]
  | 10 => [2, 2, 2, 0, 2, 2, 2, 0, 2, 2, 0, 1]
  | 11 => [2, 2, 2, 2, 2, 2, 2, 2, 2, 0, 2, 0]
  | 12 => [2, 2, 2, 2, 2, 2, 2, 2, 2, 2, 2, 2, 2, 2, 0, 0, 0, 2]
  | 13 => [2, 2, 2, 2, 2, 2, 2, 2, 2, 0, 0, 0, 0, 0]
  | 14 => [2, 0, 0, 0]
  | 15 => [0, 2, 2, 2]
  | 16 => [2, 2, 2, 2, 2, 0]
  | 17 => [2, 2, 2, 2, 2, 0]
  | 18 => [2, 0, 2, 0, 2, 2]
  | 19 => [0, 0, 0, 0, 0, 2, 2, 2, 2, 2, 0]
  | 20 => [2, 0]
  | 21 => [0, 0, 0, 0, 0, 2, 2, 2, 2, 0, 0, 1]
  | 22 => [2, 0]
  | 23 => [2, 2, 2, 2, 2, 0, 0]
  | 24 => [2, 2, 2, 2, 0, 0, 0, 0, 2, 2, 2, 2, 2, 2, 2, 0, 0, 0, 0, 0, 0, 0, 0, 0, 0, 2, 0, 0, 2, 2, 2, 2, 0, 0, 2, 2, 2, 2, 2, 2, 2, 0, 2, 2, 2, 2, 2, 0, 0, 2, 0, 2, 2, 0, 0, 2, 2, 2, 2, 2, 2, 2, 2, 2, 1, 1, 1, 1, 1, 2, 0, 2, 2, 0, 0, 0, 2, 2, 1, 0, 0, 0, 0, 0, 0, 0, 0, 0, 2, 2, 2, 2, 2, 2, 2, 2, 0, 1, 0, 2, 2, 2, 0, 2, 2, 2, 0, 0, 0, 2, 0, 0, 0, 2, 2]
  | _ => []
def sg_f (σ : Sg) (a k : Nat) : Nat → Value
  | 0 => .int (σ.i a k)
  | 1 => .long (σ.l a k)
  | _ => rv (σ.r a k)
def sg_o (σ : Sg) (a : Nat) (ci : Nat) : List Value := (sg_ft ci).mapIdx (fun k ty => sg_f σ a k ty)
def sg_a (σ : Sg) (a n : Nat) : Nat → ab_V
  | 1 => .inr (.inl ((List.range n).map (σ.l a)))
  | 0 => .inl ((List.range n).map (σ.i a))
  | 2 => .inl ((List.range n).map (σ.i a))
  | 3 => .inl ((List.range n).map (σ.i a))
  | _ => .inr (.inr ((List.range n).map fun k => rfo (σ.r a k)))
def sg_c (σ : Sg) (a : Nat) : Sh → ab_E
  | .inl ci => .inr (.inr (ci, sg_o σ a ci))
  | .inr (.inl (t, n)) => .inr (.inl (t, sg_a σ a n t))
  | .inr (.inr n) => .inl n
theorem sg_c_obj (σ : Sg) (a ci : Nat) : sg_c σ a (.obj ci) = .inr (.inr (ci, sg_o σ a ci)) := rfl
theorem sg_c_arr (σ : Sg) (a t n : Nat) : sg_c σ a (.arr t n) = .inr (.inl (t, sg_a σ a n t)) := rfl
def conc (σ : Sg) : List ab_E := σ.sh.mapIdx (fun a s => sg_c σ a s)
theorem conc_len (σ : Sg) : (conc σ).length = σ.sh.length := by
  unfold conc
  rw [List.length_mapIdx]
theorem conc_get {σ : Sg} {a : Nat} {s : Sh} (h : σ.sh[a]? = some s) : (conc σ)[a]? = some (sg_c σ a s) := by
  unfold conc
  rw [List.getElem?_mapIdx, h]
  rfl
/-- a number changed -/
def up {α : Type} (f : Nat → Nat → α) (a k : Nat) (v : α) : Nat → Nat → α := fun b j => if b = a ∧ j = k then v else f b j
theorem up_same {α : Type} (f : Nat → Nat → α) (a k : Nat) (v : α) : up f a k v a k = v := if_pos ⟨rfl, rfl⟩
theorem up_ne {α : Type} {f : Nat → Nat → α} {a k b j : Nat} {v : α} (h : ¬ (b = a ∧ j = k)) : up f a k v b j = f b j := if_neg h
theorem up_row {α : Type} {f : Nat → Nat → α} {a k b : Nat} {v : α} (h : b ≠ a) : up f a k v b = f b := funext fun _ => if_neg fun q => h q.1
def Sg.wi (σ : Sg) (a k : Nat) (v : Int32) : Sg := (σ.sh, up σ.i a k v, σ.l, σ.r)
def Sg.wl (σ : Sg) (a k : Nat) (v : Int64) : Sg := (σ.sh, σ.i, up σ.l a k v, σ.r)
def Sg.wr (σ : Sg) (a k : Nat) (v : Rf) : Sg := (σ.sh, σ.i, σ.l, up σ.r a k v)
theorem conc_set {σ τ : Sg} {a : Nat} {s : Sh} (hs : τ.sh = σ.sh) (ha : σ.sh[a]? = some s) (hi : ∀ b, b ≠ a → τ.i b = σ.i b) (hl : ∀ b, b ≠ a → τ.l b = σ.l b) (hr : ∀ b, b ≠ a → τ.r b = σ.r b) : conc τ = (conc σ).set a (sg_c τ a s) := by
  refine List.ext_getElem? fun b => ?_
  by_cases hb : b = a
  · subst hb
    rw [List.getElem?_set_self (by rw [conc_len]; exact (List.getElem?_eq_some_iff.mp ha).1), conc_get (by rw [hs]; exact ha)]
  · rw [List.getElem?_set_ne (fun q => hb q.symm)]
    unfold conc
    rw [List.getElem?_mapIdx, List.getElem?_mapIdx, hs]
    cases σ.sh[b]? with
    | none => rfl
    | some t =>
      show some (sg_c τ b t) = some (sg_c σ b t)
      congr 1
      rcases t with ci | ⟨t, n⟩ | n
      · rw [sg_c_obj, sg_c_obj]
        unfold sg_o
        have : (fun k ty => sg_f τ b k ty) = (fun k ty => sg_f σ b k ty) := by
          funext k ty
          unfold sg_f
          rw [hi b hb, hl b hb, hr b hb]
        rw [this]
      · rw [sg_c_arr, sg_c_arr]
        have : sg_a τ b n t = sg_a σ b n t := by
          unfold sg_a
          rw [hi b hb, hl b hb, hr b hb]
        rw [this]
      · rfl
theorem sg_o_get {σ : Sg} {a ci k ty : Nat} (hf : (sg_ft ci)[k]? = some ty) : (sg_o σ a ci)[k]? = some (sg_f σ a k ty) := by
  unfold sg_o
  rw [List.getElem?_mapIdx, hf]
  rfl
theorem sg_o_len (σ : Sg) (a ci : Nat) : (sg_o σ a ci).length = (sg_ft ci).length := by
  unfold sg_o
  rw [List.length_mapIdx]
theorem sg_o_set {σ τ : Sg} {a ci k ty : Nat} (hf : (sg_ft ci)[k]? = some ty) (h : ∀ j t, j ≠ k → sg_f τ a j t = sg_f σ a j t) : sg_o τ a ci = (sg_o σ a ci).set k (sg_f τ a k ty) := by
  refine List.ext_getElem? fun j => ?_
  by_cases hj : j = k
  · subst hj
    rw [List.getElem?_set_self (by rw [sg_o_len]; exact (List.getElem?_eq_some_iff.mp hf).1), sg_o_get hf]
  · rw [List.getElem?_set_ne (fun q => hj q.symm)]
    unfold sg_o
    rw [List.getElem?_mapIdx, List.getElem?_mapIdx]
    cases (sg_ft ci)[j]? with
    | none => rfl
    | some t => exact congrArg some (h j t hj)
theorem rg_get {α : Type} (f : Nat → α) {n k : Nat} (h : k < n) : ((List.range n).map f)[k]? = some (f k) := by
  rw [List.getElem?_map, List.getElem?_range h]
  rfl
theorem rg_set {α : Type} (f g : Nat → α) {n k : Nat} (h : ∀ j, j ≠ k → g j = f j) : (List.range n).map g = ((List.range n).map f).set k (g k) := by
  refine List.ext_getElem? fun j => ?_
  by_cases hj : j = k
  · subst hj
    by_cases hn : j < n
    · rw [List.getElem?_set_self (by rw [List.length_map, List.length_range]; exact hn), rg_get g hn]
    · rw [List.getElem?_eq_none (by rw [List.length_map, List.length_range]; omega), List.getElem?_eq_none (by rw [List.length_set, List.length_map, List.length_range]; omega)]
  · rw [List.getElem?_set_ne (fun q => hj q.symm)]
    by_cases hn : j < n
    · rw [rg_get g hn, rg_get f hn, h j hj]
    · rw [List.getElem?_eq_none (by rw [List.length_map, List.length_range]; omega), List.getElem?_eq_none (by rw [List.length_map, List.length_range]; omega)]
section SG
variable {σ : Sg} {a ci k n : Nat}
theorem c_oO (h : σ.sh[a]? = some (Sh.obj ci)) : oO (conc σ) a ci := ⟨_, conc_get h⟩
theorem c_rI (h : σ.sh[a]? = some (Sh.obj ci)) (f : (sg_ft ci)[k]? = some 0) : rI (conc σ) a ci k (σ.i a k) := ⟨_, conc_get h, sg_o_get f⟩
theorem c_rL (h : σ.sh[a]? = some (Sh.obj ci)) (f : (sg_ft ci)[k]? = some 1) : rL (conc σ) a ci k (σ.l a k) := ⟨_, conc_get h, sg_o_get f⟩
theorem c_rA {b : Nat} (h : σ.sh[a]? = some (Sh.obj ci)) (f : (sg_ft ci)[k]? = some 2) (q : σ.r a k = .ptr b) : rA (conc σ) a ci k b := ⟨_, conc_get h, by rw [sg_o_get f]; show some (rv (σ.r a k)) = _; rw [q]; rfl⟩
theorem c_rV (h : σ.sh[a]? = some (Sh.obj ci)) (f : (sg_ft ci)[k]? = some 2) : rV (conc σ) a ci k (rv (σ.r a k)) := ⟨_, conc_get h, sg_o_get f, oR_rv _⟩
theorem c_pI {v : Int32} (h : σ.sh[a]? = some (Sh.obj ci)) (f : (sg_ft ci)[k]? = some 0) : wF (conc σ) a ci k (.int v) (conc (σ.wi a k v)) := by
  refine ⟨_, conc_get h, by rw [sg_o_len]; exact (List.getElem?_eq_some_iff.mp f).1, ?_⟩
  rw [conc_set (σ := σ) (τ := σ.wi a k v) rfl h (fun b hb => up_row hb) (fun _ _ => rfl) (fun _ _ => rfl)]
  rw [sg_c_obj, sg_o_set (σ := σ) (τ := σ.wi a k v) f]
  · show (conc σ).set a (.inr (.inr (ci, (sg_o σ a ci).set k (.int (up σ.i a k v a k))))) = _
    rw [up_same]
  · intro j t hj
    unfold sg_f
    rw [show (σ.wi a k v).i a j = σ.i a j from up_ne (fun q => hj q.2)]
    rfl
theorem c_pL {v : Int64} (h : σ.sh[a]? = some (Sh.obj ci)) (f : (sg_ft ci)[k]? = some 1) : wF (conc σ) a ci k (.long v) (conc (σ.wl a k v)) := by
  refine ⟨_, conc_get h, by rw [sg_o_len]; exact (List.getElem?_eq_some_iff.mp f).1, ?_⟩
  rw [conc_set (σ := σ) (τ := σ.wl a k v) rfl h (fun _ _ => rfl) (fun b hb => up_row hb) (fun _ _ => rfl)]
  rw [sg_c_obj, sg_o_set (σ := σ) (τ := σ.wl a k v) f]
  · show (conc σ).set a (.inr (.inr (ci, (sg_o σ a ci).set k (.long (up σ.l a k v a k))))) = _
    rw [up_same]
  · intro j t hj
    unfold sg_f
    rw [show (σ.wl a k v).l a j = σ.l a j from up_ne (fun q => hj q.2)]
    rfl
theorem c_pR {v : Rf} (h : σ.sh[a]? = some (Sh.obj ci)) (f : (sg_ft ci)[k]? = some 2) : wF (conc σ) a ci k (rv v) (conc (σ.wr a k v)) := by
  refine ⟨_, conc_get h, by rw [sg_o_len]; exact (List.getElem?_eq_some_iff.mp f).1, ?_⟩
  rw [conc_set (σ := σ) (τ := σ.wr a k v) rfl h (fun _ _ => rfl) (fun _ _ => rfl) (fun b hb => up_row hb)]
  rw [sg_c_obj, sg_o_set (σ := σ) (τ := σ.wr a k v) f]
  · show (conc σ).set a (.inr (.inr (ci, (sg_o σ a ci).set k (rv (up σ.r a k v a k))))) = _
    rw [up_same]
  · intro j t hj
    unfold sg_f
    rw [show (σ.wr a k v).r a j = σ.r a j from up_ne (fun q => hj q.2)]
    rfl
/-- the bounds of a place -/
abbrev ib (x : Int32) (n : Nat) : Prop := ¬ x < 0 ∧ x.toNatClampNeg < n
theorem ib_ix {α : Type} {f : Nat → α} {x : Int32} (h : ib x n) : ix x ((List.range n).map f) (f x.toNatClampNeg) := ⟨h.1, rg_get f h.2⟩
theorem ib_bd {α : Type} {f : Nat → α} {x : Int32} (h : ib x n) : ¬ (x < 0 ∨ ((List.range n).map f).length ≤ x.toNatClampNeg) := by
  rw [List.length_map, List.length_range]
  rintro (q | q)
  · exact h.1 q
  · have := h.2
    omega
theorem c_eI {x : Int32} (h : σ.sh[a]? = some (Sh.arr 0 n)) (b : ib x n) : eI (conc σ) a x (σ.i a x.toNatClampNeg) := ⟨_, conc_get h, ib_ix b⟩
theorem c_eL {x : Int32} (h : σ.sh[a]? = some (Sh.arr 1 n)) (b : ib x n) : eL (conc σ) a x (σ.l a x.toNatClampNeg) := ⟨_, conc_get h, ib_ix b⟩
theorem c_eB2 {x : Int32} (h : σ.sh[a]? = some (Sh.arr 2 n)) (b : ib x n) : eB (conc σ) a x (σ.i a x.toNatClampNeg) := ⟨2, _, Or.inl rfl, conc_get h, ib_ix b⟩
theorem c_eB3 {x : Int32} (h : σ.sh[a]? = some (Sh.arr 3 n)) (b : ib x n) : eB (conc σ) a x (σ.i a x.toNatClampNeg) := ⟨3, _, Or.inr rfl, conc_get h, ib_ix b⟩
theorem sg_a4 {t : Nat} (ht : 4 ≤ t) : sg_a σ a n t = .inr (.inr ((List.range n).map fun k => rfo (σ.r a k))) := by
  match t, ht with
  | t + 4, _ => rfl
theorem c_eA {x : Int32} {t b : Nat} (h : σ.sh[a]? = some (Sh.arr t n)) (ht : 4 ≤ t) (ho : (hb_O (t - 4)).map (fun t => t.isReference) = some true) (bd : ib x n) (q : σ.r a x.toNatClampNeg = .ptr b) : eA (conc σ) a x b := by
  refine ⟨t, _, ht, ho, (conc_get h).trans (by rw [sg_c_arr, sg_a4 ht]), bd.1, ?_⟩
  rw [rg_get _ bd.2, q]
  rfl
theorem c_eN {t : Nat} (h : σ.sh[a]? = some (Sh.arr t n)) (ht : t < 4 ∨ (hb_O (t - 4)).isSome = true) : eN (conc σ) a (Int32.ofNat n) := by
  refine ⟨t, _, ht, conc_get h, ?_⟩
  congr 1
  show n = ab_len (sg_a σ a n t)
  unfold sg_a
  split <;> simp [ab_len]
theorem c_sI {x v : Int32} (h : σ.sh[a]? = some (Sh.arr 0 n)) (b : ib x n) : sI (conc σ) a x v (conc (σ.wi a x.toNatClampNeg v)) := by
  refine ⟨_, conc_get h, ib_bd b, ?_⟩
  rw [conc_set (σ := σ) (τ := σ.wi a x.toNatClampNeg v) rfl h (fun b hb => up_row hb) (fun _ _ => rfl) (fun _ _ => rfl)]
  show (conc σ).set a (.inr (.inl (0, .inl ((List.range n).map ((σ.wi a x.toNatClampNeg v).i a))))) = _
  rw [rg_set (σ.i a) ((σ.wi a x.toNatClampNeg v).i a) (fun j hj => up_ne (fun q => hj q.2))]
  show (conc σ).set a (.inr (.inl (0, .inl (((List.range n).map (σ.i a)).set x.toNatClampNeg (up σ.i a x.toNatClampNeg v a x.toNatClampNeg))))) = _
  rw [up_same]
theorem c_sL {x : Int32} {v : Int64} (h : σ.sh[a]? = some (Sh.arr 1 n)) (b : ib x n) : sL (conc σ) a x v (conc (σ.wl a x.toNatClampNeg v)) := by
  refine ⟨_, conc_get h, ib_bd b, ?_⟩
  rw [conc_set (σ := σ) (τ := σ.wl a x.toNatClampNeg v) rfl h (fun _ _ => rfl) (fun b hb => up_row hb) (fun _ _ => rfl)]
  show (conc σ).set a (.inr (.inl (1, .inr (.inl ((List.range n).map ((σ.wl a x.toNatClampNeg v).l a)))))) = _
  rw [rg_set (σ.l a) ((σ.wl a x.toNatClampNeg v).l a) (fun j hj => up_ne (fun q => hj q.2))]
  show (conc σ).set a (.inr (.inl (1, .inr (.inl (((List.range n).map (σ.l a)).set x.toNatClampNeg (up σ.l a x.toNatClampNeg v a x.toNatClampNeg)))))) = _
  rw [up_same]
theorem c_sB {x v : Int32} {t : Nat} (ht : t = 2 ∨ t = 3) (h : σ.sh[a]? = some (Sh.arr t n)) (b : ib x n) : sB (conc σ) a x v (conc (σ.wi a x.toNatClampNeg (vp_nar (if t = 2 then .byte else .boolean) v))) := by
  have hc : ∀ τ : Sg, sg_c τ a (.arr t n) = .inr (.inl (t, .inl ((List.range n).map (τ.i a)))) := by
    intro τ
    rcases ht with rfl | rfl <;> rfl
  refine ⟨t, _, ht, (conc_get h).trans (by rw [hc]), ib_bd b, ?_⟩
  rw [conc_set (σ := σ) (τ := σ.wi a x.toNatClampNeg (vp_nar (if t = 2 then .byte else .boolean) v)) rfl h (fun b hb => up_row hb) (fun _ _ => rfl) (fun _ _ => rfl), hc]
  rw [rg_set (σ.i a) ((σ.wi a x.toNatClampNeg (vp_nar (if t = 2 then .byte else .boolean) v)).i a) (fun j hj => up_ne (fun q => hj q.2))]
  show (conc σ).set a (.inr (.inl (t, .inl (((List.range n).map (σ.i a)).set x.toNatClampNeg (up σ.i a x.toNatClampNeg (vp_nar (if t = 2 then .byte else .boolean) v) a x.toNatClampNeg))))) = _
  rw [up_same]
theorem c_sA {x : Int32} {t v cv : Nat} (ht : 4 ≤ t) (h : σ.sh[a]? = some (Sh.arr t n)) (hv : σ.sh[v]? = some (Sh.obj cv)) (hc : ((vwCl)[cv]?).map (fun z => FieldType.object z.1) = hb_O (t - 4)) (hs : (hb_O (t - 4)).isSome = true) (b : ib x n) : sA (conc σ) a x v (conc (σ.wr a x.toNatClampNeg (.ptr v))) := by
  have hcc : ∀ τ : Sg, sg_c τ a (.arr t n) = .inr (.inl (t, .inr (.inr ((List.range n).map fun k => rfo (τ.r a k))))) := fun τ => by
    rw [sg_c_arr, sg_a4 ht]
  refine ⟨t, _, cv, _, ht, conc_get hv, (conc_get h).trans (by rw [hcc]), ib_bd b, hc, hs, ?_⟩
  rw [conc_set (σ := σ) (τ := σ.wr a x.toNatClampNeg (.ptr v)) rfl h (fun _ _ => rfl) (fun _ _ => rfl) (fun b hb => up_row hb), hcc]
  rw [rg_set (fun k => rfo (σ.r a k)) (fun k => rfo ((σ.wr a x.toNatClampNeg (.ptr v)).r a k)) (fun j hj => by show rfo (up σ.r _ _ _ _ _) = _; rw [up_ne (fun q => hj q.2)])]
  show (conc σ).set a (.inr (.inl (t, .inr (.inr (((List.range n).map fun k => rfo (σ.r a k)).set x.toNatClampNeg (rfo (up σ.r a x.toNatClampNeg (.ptr v) a x.toNatClampNeg))))))) = _
  rw [up_same]
  rfl
end SG

/-! THE CLASS: comparisons of tests -/
/-- the tests of a TEST, in their order -/
def lvT : Ast → List Ast
  | .tag op (.nest v (.nest w (.append a (.append b .nil)))) => if op = 8 ∨ op = 9 then [aN op v w a b .nil] else lvT a ++ lvT b
  | _ => []
/-- its truth table; j: the number of its first test -/
def ttA : Ast → Nat → Int64
  | .tag op (.nest _ (.nest _ (.append a (.append b .nil)))), j => if op = 20 then ttA a j ||| ttA b (j + lfN a) else if op = 21 then ttA a j &&& ttA b (j + lfN a) else if op = 22 then ttA a j ^^^ (-1) else trN j
  | _, _ => -1
theorem lvT_2 (op : Nat) (v w : Int) (a b : Ast) : lvT (aN op v w a b .nil) = if op = 8 ∨ op = 9 then [aN op v w a b .nil] else lvT a ++ lvT b := rfl
theorem ttA_2 (op : Nat) (v w : Int) (a b : Ast) (j : Nat) : ttA (aN op v w a b .nil) j = if op = 20 then ttA a j ||| ttA b (j + lfN a) else if op = 21 then ttA a j &&& ttA b (j + lfN a) else if op = 22 then ttA a j ^^^ (-1) else trN j := rfl
theorem lvT_len {kn pl : Nat} : ∀ x, tsW kn pl x → (lvT x).length = lfN x := by
  refine ts_ind (fun v w pb mo _ _ _ _ => rfl) (fun v w _ _ => rfl) (fun op v w a b h1 _ _ ha hb => ?_) (fun v w a _ ha => ?_)
  · rw [lvT_2, lfN_2, if_neg (by omega), if_neg (by omega), List.length_append, ha, hb]
  · rw [lvT_2, lfN_2, if_neg (by decide), if_neg (by decide), List.length_append, ha]
    rfl
/-- a test in the heap -/
def LfC (σ : Sg) (a : Nat) (x : Ast) : Prop := (∃ (ty : Nat) (pa pb mo : Int), x = aN 8 ty pa (.nest pb (.nest mo .nil)) .nil .nil ∧ σ.i 19 a = (if ty = 16 then 1 else 0) ∧ σ.i 20 a = Int32.ofInt (pa + 1) ∧ σ.i 21 a = Int32.ofInt (pb + 1) ∧ σ.l 22 a = Int64.ofInt (-mo - if ty = 15 then 1 else 0)) ∨ ∃ (kd v : Int), x = aN 9 kd v .nil .nil .nil ∧ σ.i 19 a = 2 ∧ σ.i 20 a = Int32.ofInt (v + 1) ∧ σ.i 21 a = Int32.ofInt kd ∧ σ.l 22 a = 0
theorem LfC.keep {σ τ : Sg} {a : Nat} {x : Ast} (h : LfC σ a x) (g : τ.i 19 a = σ.i 19 a ∧ τ.i 20 a = σ.i 20 a ∧ τ.i 21 a = σ.i 21 a ∧ τ.l 22 a = σ.l 22 a) : LfC τ a x := by
  unfold LfC at *
  rw [g.1, g.2.1, g.2.2.1, g.2.2.2]
  exact h
/-- what reading a method may write beside its code: m its number -/
def mdI (m a j : Nat) : Prop := (a = 40 ∧ 3 ≤ j) ∨ (a = 28 ∧ j = 3) ∨ ((a = 11 ∨ a = 12 ∨ a = 13 ∨ a = 14 ∨ a = 18) ∧ j = m) ∨ ((a = 15 ∨ a = 16 ∨ a = 17) ∧ j / 3 = m) ∨ ((a = 19 ∨ a = 20 ∨ a = 21) ∧ j / 6 = m)
def mdL (m a j : Nat) : Prop := ((a = 29 ∨ a = 30) ∧ 56 ≤ j) ∨ (a = 22 ∧ j / 6 = m) ∨ (a = 23 ∧ j = m) ∨ a = 40
def MdF (m : Nat) (σ τ : Sg) : Prop := τ.sh = σ.sh ∧ τ.r = σ.r ∧ (∀ a j, ¬ mdI m a j → τ.i a j = σ.i a j) ∧ ∀ a j, ¬ mdL m a j → τ.l a j = σ.l a j
/-- the same, but for what says a test is -/
def TtF (m : Nat) (σ τ : Sg) : Prop := MdF m σ τ ∧ (∀ a, 11 ≤ a → a ≤ 17 → τ.i a = σ.i a) ∧ τ.l 23 = σ.l 23 ∧ (∀ j, 7 ≤ j → j ≤ 9 → τ.i 40 j = σ.i 40 j)
section CMP
variable {Z : zT} {d : Nat} {t : Nat → Int32} {n N m : Nat} {B : Nat × Nat × Nat × Nat × Nat} {C : Nat × Nat × Nat × Nat} {W : Wld} {σ τ υ : Sg} {K : kS} {vs : List (List Int32)} {R : HR}
theorem MdF.refl (m : Nat) (σ : Sg) : MdF m σ σ := ⟨rfl, rfl, fun _ _ _ => rfl, fun _ _ _ => rfl⟩
theorem MdF.tr (h : MdF m σ τ) (g : MdF m τ υ) : MdF m σ υ := ⟨g.1.trans h.1, g.2.1.trans h.2.1, fun a j q => (g.2.2.1 a j q).trans (h.2.2.1 a j q), fun a j q => (g.2.2.2 a j q).trans (h.2.2.2 a j q)⟩
theorem TdF.md (m : Nat) (h : TdF σ τ) : MdF m σ τ := ⟨h.1, h.2.1, fun a j q => h.2.2.1 a j (fun z => q (by unfold mdI; omega)) (fun z => q (by unfold mdI; omega)), fun a j q => h.2.2.2 a j (fun z => q (Or.inl z)) (fun z => q (Or.inr (Or.inr (Or.inr z))))⟩
theorem HdF.md (m : Nat) (h : HdF σ τ) : MdF m σ τ := h.td.md m
theorem MdF.wi {a j : Nat} {v : Int32} (h : mdI m a j) : MdF m σ (σ.wi a j v) := ⟨rfl, rfl, fun b i q => wi_ne (fun z => q (by rw [z.1, z.2]; exact h)), fun _ _ _ => rfl⟩
theorem MdF.wl {a j : Nat} {v : Int64} (h : mdL m a j) : MdF m σ (σ.wl a j v) := ⟨rfl, rfl, fun _ _ _ => rfl, fun b i q => wl_ne (fun z => q (by rw [z.1, z.2]; exact h))⟩
theorem TtF.refl (m : Nat) (σ : Sg) : TtF m σ σ := ⟨MdF.refl _ _, fun _ _ _ => rfl, rfl, fun _ _ _ => rfl⟩
theorem TtF.tr (h : TtF m σ τ) (g : TtF m τ υ) : TtF m σ υ := ⟨h.1.tr g.1, fun a q1 q2 => (g.2.1 a q1 q2).trans (h.2.1 a q1 q2), g.2.2.1.trans h.2.2.1, fun j q1 q2 => (g.2.2.2 j q1 q2).trans (h.2.2.2 j q1 q2)⟩
theorem TdF.tt (m : Nat) (h : TdF σ τ) : TtF m σ τ := ⟨h.md m, fun a q1 q2 => funext fun j => h.2.2.1 a j (by omega) (by omega), funext fun j => h.2.2.2 23 j (by omega) (by omega), fun j q1 q2 => h.2.2.1 40 j (by omega) (by omega)⟩
theorem HdF.tt (m : Nat) (h : HdF σ τ) : TtF m σ τ := h.td.tt m
theorem HB.md (h : HB t n N B C W σ) (g : MdF m σ τ) (hC : C.2.1 = 25 ∨ 102 ≤ C.2.1) : HB t n N B C W τ := by
  obtain ⟨f, sa, ss, hn, ca, ne, ⟨k1, k2, k3, k4, k5⟩, ⟨q1, q2, q3, q4, q5⟩, ⟨l1, l2, l3, l4⟩⟩ := h
  have sa' := sa
  obtain ⟨-, -, -, -, ⟨n1, n2⟩, e0, e1, e2, e3, hc⟩ := sa
  have gi := g.2.2.1
  have gl := g.2.2.2
  have hi : ∀ a j, (a < 11 ∨ 23 < a) → a ≠ 40 → ¬ (a = 28 ∧ j = 3) → τ.i a j = σ.i a j := fun a j c1 c2 c3 => gi a j (by unfold mdI; omega)
  have hl : ∀ a j, ¬ ((a = 29 ∨ a = 30) ∧ 56 ≤ j) → a ≠ 22 → a ≠ 23 → a ≠ 40 → τ.l a j = σ.l a j := fun a j c1 c2 c3 c4 => gl a j (by unfold mdL; omega)
  refine ⟨by rw [g.1, g.2.1]; exact f, by unfold SgA; rw [g.1, g.2.1]; exact sa', ss.keep (hi 41 4 (by omega) (by omega) (by omega)) (funext fun k => hi _ k (by omega) (by omega) (by omega)) (funext fun k => hi _ k (by omega) (by omega) (by omega)) (funext fun k => hl _ k (by omega) (by omega) (by omega) (by omega)) (funext fun k => hl _ k (by omega) (by omega) (by omega) (by omega)), hn, by unfold CoA; rw [g.1, g.2.1]; exact ca, ne, ⟨(hi 28 0 (by omega) (by omega) (by omega)).trans k1, k2, k3.keep (fun k hk => ?_), k4, fun k x hx => (hi 3 k (by omega) (by omega) (by omega)).trans (k5 k x hx)⟩, ⟨(hi 28 1 (by omega) (by omega) (by omega)).trans q1, q2, q3.keep (fun k hk => ?_), q4, fun k x hx => ⟨(hi 31 k (by omega) (by omega) (by omega)).trans (q5 k x hx).1, (q5 k x hx).2⟩⟩, ⟨(hi 28 2 (by omega) (by omega) (by omega)).trans l1, l2, l3.keep (fun k hk => ?_), l4⟩⟩
  · rw [List.length_map] at hk
    exact ⟨hl 29 _ (by omega) (by omega) (by omega) (by omega), hl 30 _ (by omega) (by omega) (by omega) (by omega)⟩
  · rw [List.length_map] at hk
    exact ⟨hl 29 _ (by omega) (by omega) (by omega) (by omega), hl 30 _ (by omega) (by omega) (by omega) (by omega)⟩
  · exact ⟨hl 29 _ (by omega) (by omega) (by omega) (by omega), hl 30 _ (by omega) (by omega) (by omega) (by omega)⟩
theorem BdS.se {p : Nat} {es es' : Evs} (h : BdS t n N vs (.inr (p, es)) σ) (e : ∀ x, x ∈ es ↔ x ∈ es') : BdS t n N vs (.inr (p, es')) σ := by
  obtain ⟨b1, b2, ru, hev⟩ := h
  refine ⟨b1, b2, ?_, fun x hx => hev x ((e x).mpr hx)⟩
  unfold RuC at ru ⊢
  rw [← lsE_set e]
  exact ru
/-- the tests of method m so far -/
def TqS (m : Nat) (es : Evs) (lv : List Ast) (σ : Sg) : Prop := ∃ x, x ≤ 6 ∧ σ.i 18 m = Int32.ofNat x ∧ (es = [] → x = lv.length ∧ ∀ (j : Nat) l, lv[j]? = some l → LfC σ (6 * m + j) l)
theorem TqS.td {es : Evs} {lv : List Ast} (h : TqS m es lv σ) (g : TdF σ τ) : TqS m es lv τ := by
  obtain ⟨x, h2, h3, h4⟩ := h
  refine ⟨x, h2, (g.2.2.1 18 m (by omega) (by omega)).trans h3, fun z => ?_⟩
  obtain ⟨a1, a3⟩ := h4 z
  exact ⟨a1, fun j l hl => (a3 j l hl).keep ⟨g.2.2.1 19 _ (by omega) (by omega), g.2.2.1 20 _ (by omega) (by omega), g.2.2.1 21 _ (by omega) (by omega), g.2.2.2 22 _ (by omega) (by omega)⟩⟩
theorem TqS.w {es : Evs} {lv : List Ast} {k : Nat} {v : Int32} (h : TqS m es lv σ) : TqS m es lv (σ.wi 40 k v) := by
  obtain ⟨x, h2, h3, h4⟩ := h
  refine ⟨x, h2, (wi_ne (by omega)).trans h3, fun z => ?_⟩
  obtain ⟨a1, a3⟩ := h4 z
  exact ⟨a1, fun j l hl => (a3 j l hl).keep ⟨wi_ne (by omega), wi_ne (by omega), wi_ne (by omega), rfl⟩⟩
theorem TqS.se {es es' : Evs} {lv lv' : List Ast} (h : TqS m es lv σ) (e : es' = [] → es = [] ∧ lv' = lv) : TqS m es' lv' σ := by
  obtain ⟨x, h2, h3, h4⟩ := h
  refine ⟨x, h2, h3, fun z => ?_⟩
  obtain ⟨e1, e2⟩ := e z
  rw [e2]
  exact h4 e1
/-- a test is put down -/
theorem cl_addT {es : Evs} {lv : List Ast} {so le ri : Int32} {bo : Int64} (F : FX ΦC σ.sh σ.r) (hm : m < 122) (h : TqS m es lv σ) (hc : es = [] → lv.length < 6) (k : ∀ τ (v : Nat), v ≤ 5 → (es = [] → v = lv.length) → TtF m σ τ → (∀ vs R, BdS t n N vs R σ → BdS t n N vs R τ) → (∀ a j, a ≠ 18 → a ≠ 19 → a ≠ 20 → a ≠ 21 → τ.i a j = σ.i a j) → (∃ x, x ≤ 6 ∧ τ.i 18 m = Int32.ofNat x) → (es = [] → τ.i 18 m = Int32.ofNat (lv.length + 1) ∧ (∀ (j : Nat) l, lv[j]? = some l → LfC τ (6 * m + j) l) ∧ τ.i 19 (6 * m + lv.length) = so ∧ τ.i 20 (6 * m + lv.length) = le ∧ τ.i 21 (6 * m + lv.length) = ri ∧ τ.l 22 (6 * m + lv.length) = bo) → K (.inl (some (.int (Int32.ofNat v)))) τ) : C_X5_addTest_0 Z (d + 1) σ (Int32.ofNat m) so le ri bo K := by
  obtain ⟨x, h2, h3, h4⟩ := h
  refine T_X5_addTest_0 F ⟨ib_oN hm (by decide), ?_⟩
  rw [oN_t (by omega), h3, show (6 : Int32) = Int32.ofNat 6 from rfl, oN_lt (by omega) (by decide), oN_mul, oN_add, oN_t (by omega), oN_1]
  refine ⟨fun z => ⟨ib_oN (by omega) (by omega), ib_oN (by omega) (by omega), ib_oN (by omega) (by omega), ib_oN (by omega) (by omega), ib_oN (by omega) (by omega), ib_oN (by omega) (by omega), ?_⟩, fun z => ?_⟩
  · have e6 : m * 6 + x = 6 * m + x := by omega
    rw [e6]
    have gi : ∀ a j, ¬ ((a = 19 ∨ a = 20 ∨ a = 21) ∧ j = 6 * m + x) → ¬ (a = 18 ∧ j = m) → (((((σ.wi 19 (6 * m + x) so).wi 20 (6 * m + x) le).wi 21 (6 * m + x) ri).wl 22 (6 * m + x) bo).wi 18 m (Int32.ofNat (x + 1))).i a j = σ.i a j := fun a j c1 c2 => (wi_ne (σ := (((σ.wi 19 (6 * m + x) so).wi 20 (6 * m + x) le).wi 21 (6 * m + x) ri).wl 22 (6 * m + x) bo) c2).trans ((wi_ne (σ := (σ.wi 19 (6 * m + x) so).wi 20 (6 * m + x) le) (a := 21) (k := 6 * m + x) (v := ri) (by omega)).trans ((wi_ne (by omega)).trans (wi_ne (by omega))))
    have x1 : (((((σ.wi 19 (6 * m + x) so).wi 20 (6 * m + x) le).wi 21 (6 * m + x) ri).wl 22 (6 * m + x) bo).wi 18 m (Int32.ofNat (x + 1))).i 19 (6 * m + x) = so := (wi_ne (σ := (((σ.wi 19 (6 * m + x) so).wi 20 (6 * m + x) le).wi 21 (6 * m + x) ri).wl 22 (6 * m + x) bo) (by omega)).trans ((wi_ne (σ := (σ.wi 19 (6 * m + x) so).wi 20 (6 * m + x) le) (a := 21) (k := 6 * m + x) (v := ri) (by omega)).trans ((wi_ne (by omega)).trans wi_eq))
    have x2 : (((((σ.wi 19 (6 * m + x) so).wi 20 (6 * m + x) le).wi 21 (6 * m + x) ri).wl 22 (6 * m + x) bo).wi 18 m (Int32.ofNat (x + 1))).i 20 (6 * m + x) = le := (wi_ne (σ := (((σ.wi 19 (6 * m + x) so).wi 20 (6 * m + x) le).wi 21 (6 * m + x) ri).wl 22 (6 * m + x) bo) (by omega)).trans ((wi_ne (σ := (σ.wi 19 (6 * m + x) so).wi 20 (6 * m + x) le) (a := 21) (k := 6 * m + x) (v := ri) (by omega)).trans wi_eq)
    have x3 : (((((σ.wi 19 (6 * m + x) so).wi 20 (6 * m + x) le).wi 21 (6 * m + x) ri).wl 22 (6 * m + x) bo).wi 18 m (Int32.ofNat (x + 1))).i 21 (6 * m + x) = ri := (wi_ne (σ := (((σ.wi 19 (6 * m + x) so).wi 20 (6 * m + x) le).wi 21 (6 * m + x) ri).wl 22 (6 * m + x) bo) (by omega)).trans (wi_eq (σ := (σ.wi 19 (6 * m + x) so).wi 20 (6 * m + x) le))
    have gl : ∀ a j, ¬ (a = 22 ∧ j = 6 * m + x) → (((((σ.wi 19 (6 * m + x) so).wi 20 (6 * m + x) le).wi 21 (6 * m + x) ri).wl 22 (6 * m + x) bo).wi 18 m (Int32.ofNat (x + 1))).l a j = σ.l a j := fun a j c => wl_ne (σ := ((σ.wi 19 (6 * m + x) so).wi 20 (6 * m + x) le).wi 21 (6 * m + x) ri) c
    have x4 : (((((σ.wi 19 (6 * m + x) so).wi 20 (6 * m + x) le).wi 21 (6 * m + x) ri).wl 22 (6 * m + x) bo).wi 18 m (Int32.ofNat (x + 1))).l 22 (6 * m + x) = bo := wl_eq (σ := ((σ.wi 19 (6 * m + x) so).wi 20 (6 * m + x) le).wi 21 (6 * m + x) ri)
    have x5 : (((((σ.wi 19 (6 * m + x) so).wi 20 (6 * m + x) le).wi 21 (6 * m + x) ri).wl 22 (6 * m + x) bo).wi 18 m (Int32.ofNat (x + 1))).i 18 m = Int32.ofNat (x + 1) := wi_eq
    have hs : (((((σ.wi 19 (6 * m + x) so).wi 20 (6 * m + x) le).wi 21 (6 * m + x) ri).wl 22 (6 * m + x) bo).wi 18 m (Int32.ofNat (x + 1))).sh = σ.sh := rfl
    have hr : (((((σ.wi 19 (6 * m + x) so).wi 20 (6 * m + x) le).wi 21 (6 * m + x) ri).wl 22 (6 * m + x) bo).wi 18 m (Int32.ofNat (x + 1))).r = σ.r := rfl
    have bd : ∀ vs R, BdS t n N vs R σ → BdS t n N vs R (((((σ.wi 19 (6 * m + x) so).wi 20 (6 * m + x) le).wi 21 (6 * m + x) ri).wl 22 (6 * m + x) bo).wi 18 m (Int32.ofNat (x + 1))) := fun vs R b => ((((b.wi (by decide) (by decide)).wi (by decide) (by decide)).wi (by decide) (by decide)).wl (by decide) (by decide)).wi (by decide) (by decide)
    generalize ((((σ.wi 19 (6 * m + x) so).wi 20 (6 * m + x) le).wi 21 (6 * m + x) ri).wl 22 (6 * m + x) bo).wi 18 m (Int32.ofNat (x + 1)) = τ at hs hr gi x1 x2 x3 gl x4 x5 bd ⊢
    refine k τ x (by omega) (fun y => (h4 y).1) ⟨⟨hs, hr, fun a j q => gi a j (fun c => q (by unfold mdI; omega)) (fun c => q (by unfold mdI; omega)), fun a j q => gl a j (fun c => q (by unfold mdL; omega))⟩, fun a q1 q2 => funext fun j => gi a j (by omega) (by omega), funext fun j => gl 23 j (by omega), fun j q1 q2 => gi 40 j (by omega) (by omega)⟩ bd (fun a j c1 c2 c3 c4 => gi a j (by omega) (by omega)) ⟨x + 1, by omega, x5⟩ (fun y => ?_)
    obtain ⟨a1, a3⟩ := h4 y
    rw [← a1]
    refine ⟨x5, fun j l hl => (a3 j l hl).keep ?_, x1, x2, x3, x4⟩
    have := (List.getElem?_eq_some_iff.mp hl).1
    exact ⟨gi 19 _ (by omega) (by omega), gi 20 _ (by omega) (by omega), gi 21 _ (by omega) (by omega), gl 22 _ (by omega)⟩
  · have ne : es ≠ [] := fun y => by
      have := hc y
      have := (h4 y).1
      omega
    exact k σ 5 (Nat.le_refl _) (fun y => absurd y ne) (TtF.refl _ _) (fun _ _ b => b) (fun _ _ _ _ _ _ => rfl) ⟨x, h2, h3⟩ (fun y => absurd y ne)
end CMP

/-! PURE: what a method asks, one after the other -/
def lfA (bl : Nat → Nat → Bool) (k : Nat → Nat) : Ast → AkQ
  | .tag op (.nest v (.nest w (.append a (.append _ _)))) => if op = 9 then (false, 0, 0, if bl (k w.toNat) v.toNat = true then 0 else -1) else (decide (v = 16), (w + 1).toNat, (pbOf a + 1).toNat, -moOf a - if v = 15 then 1 else 0)
  | _ => (false, 0, 0, 0)
def eqA (sp : List Spc) (p : Nat) : List AkQ := if hsI sp p = true then [(true, p + 1, 0, eqI sp p)] else []
def asQ (bl : Nat → Nat → Bool) (k : Nat → Nat) (sp : List Spc) (x : Ast) : List AkQ := eqA sp 0 ++ (eqA sp 1 ++ (eqA sp 2 ++ (lvT x).map (lfA bl k)))
section PASK
variable {bl : Nat → Nat → Bool} {k : Nat → Nat} {kn pl : Nat}
theorem lv_c : ∀ x, tsW kn pl x → ∀ l ∈ lvT x, (∃ v w pb mo, l = aN 8 v w (.nest pb (.nest mo .nil)) .nil .nil ∧ (v = 15 ∨ v = 16 ∨ v = 17) ∧ (-1 ≤ w ∧ w < (pl : Int)) ∧ (-1 ≤ pb ∧ pb < (pl : Int)) ∧ (-4294967294 ≤ mo ∧ mo ≤ 4294967294)) ∨ (∃ v w, l = aN 9 v w .nil .nil .nil ∧ (0 ≤ v ∧ v < (kn : Int)) ∧ (0 ≤ w ∧ w < (pl : Int))) := by
  refine ts_ind (fun v w pb mo h1 h2 h3 h4 l hl => ?_) (fun v w h1 h2 l hl => ?_) (fun op v w a b h1 _ _ ha hb l hl => ?_) (fun v w a _ ha l hl => ?_)
  · rw [lvT_2, if_pos (by decide), List.mem_singleton] at hl
    exact Or.inl ⟨v, w, pb, mo, hl, h1, h2, h3, h4⟩
  · rw [lvT_2, if_pos (by decide), List.mem_singleton] at hl
    exact Or.inr ⟨v, w, hl, h1, h2⟩
  · rw [lvT_2, if_neg (by omega), List.mem_append] at hl
    exact hl.elim (ha l) (hb l)
  · rw [lvT_2, if_neg (by decide), List.mem_append] at hl
    exact hl.elim (ha l) (fun z => by cases z)
/-- a test holds just if what it asks does -/
theorem lf_ok (v : Nat → Int) {x l : Ast} (h : tsW kn pl x) (hl : l ∈ lvT x) : akH (vx v) (lfA bl k l) = tsB bl k v l := by
  rcases lv_c x h l hl with ⟨y, w, pb, mo, rfl, h1, h2, h3, -⟩ | ⟨y, w, rfl, h1, h2⟩
  · have e : lfA bl k (aN 8 y w (.nest pb (.nest mo .nil)) .nil .nil) = (decide (y = 16), (w + 1).toNat, (pb + 1).toNat, -mo - if y = 15 then 1 else 0) := rfl
    have ts : tsB bl k v (aN 8 y w (.nest pb (.nest mo .nil)) .nil .nil) = cmS y (trm v w - trm v pb + mo) := by
      rw [tsB_2, if_neg (by decide), if_neg (by decide), if_neg (by decide), if_neg (by decide)]
      rfl
    rw [e, ts, trm_vx v h2.1, trm_vx v h3.1]
    show (if decide (y = 16) = true then decide (vx v (w + 1).toNat - vx v (pb + 1).toNat = -mo - if y = 15 then 1 else 0) else decide (vx v (w + 1).toNat - vx v (pb + 1).toNat ≤ -mo - if y = 15 then 1 else 0)) = cmS y (vx v (w + 1).toNat - vx v (pb + 1).toNat + mo)
    generalize vx v (w + 1).toNat = a
    generalize vx v (pb + 1).toNat = b
    unfold cmS
    rcases h1 with rfl | rfl | rfl
    · show decide (a - b ≤ -mo - 1) = decide (a - b + mo < 0)
      exact decide_eq_decide.mpr (by omega)
    · rw [if_pos (by decide), if_pos rfl, if_neg (by decide)]
      exact decide_eq_decide.mpr (by omega)
    · rw [if_neg (by decide), if_neg (by decide), if_pos rfl, if_neg (by decide)]
      exact decide_eq_decide.mpr (by omega)
  · have e : lfA bl k (aN 9 y w .nil .nil .nil) = (false, 0, 0, if bl (k w.toNat) y.toNat = true then 0 else -1) := rfl
    have ts : tsB bl k v (aN 9 y w .nil .nil .nil) = bl (k w.toNat) y.toNat := by
      rw [tsB_2, if_neg (by decide), if_neg (by decide), if_neg (by decide), if_pos rfl]
    rw [e, ts]
    show (if false = true then _ else decide (vx v 0 - vx v 0 ≤ if bl (k w.toNat) y.toNat = true then 0 else -1)) = _
    rw [if_neg (by decide)]
    cases bl (k w.toNat) y.toNat with
    | true =>
      rw [if_pos rfl]
      exact decide_eq_true (by omega)
    | false =>
      rw [if_neg (by decide)]
      exact decide_eq_false (by omega)
theorem lfA_W {x l : Ast} (h : tsW kn pl x) (hl : l ∈ lvT x) (hp : pl ≤ 3) : (lfA bl k l).2.1 < 4 ∧ (lfA bl k l).2.2.1 < 4 ∧ -8589934592 ≤ (lfA bl k l).2.2.2 ∧ (lfA bl k l).2.2.2 ≤ 8589934592 := by
  rcases lv_c x h l hl with ⟨y, w, pb, mo, rfl, h1, h2, h3, h4⟩ | ⟨y, w, rfl, h1, h2⟩
  · have e : lfA bl k (aN 8 y w (.nest pb (.nest mo .nil)) .nil .nil) = (decide (y = 16), (w + 1).toNat, (pb + 1).toNat, -mo - if y = 15 then 1 else 0) := rfl
    rw [e]
    dsimp only
    refine ⟨by omega, by omega, ?_, ?_⟩ <;> split <;> omega
  · have e : lfA bl k (aN 9 y w .nil .nil .nil) = (false, 0, 0, if bl (k w.toNat) y.toNat = true then 0 else -1) := rfl
    rw [e]
    dsimp only
    refine ⟨by omega, by omega, ?_, ?_⟩ <;> split <;> omega
theorem trN_ok : ∀ j, j < 6 → ∀ i, i < 64 → tb (trN j) i = i.testBit j := by decide +kernel
/-- the truth table -/
theorem tt_okC {idx : Nat} (hi : idx < 64) {v : Nat → Int} : ∀ x, tsW kn pl x → ∀ j, j + lfN x ≤ 6 → (∀ (i : Nat) l, (lvT x)[i]? = some l → idx.testBit (j + i) = tsB bl k v l) → tb (ttA x j) idx = tsB bl k v x := by
  refine ts_ind (fun v' w pb mo h1 h2 h3 h4 j hj h => ?_) (fun v' w h1 h2 j hj h => ?_) (fun op v' w a b h1 wa wb ha hb j hj h => ?_) (fun v' w a wa ha j hj h => ?_)
  · have := h 0 _ rfl
    rw [ttA_2, if_neg (by decide), if_neg (by decide), if_neg (by decide), trN_ok j (by rw [lfN_2] at hj; exact hj) idx hi]
    exact this
  · have := h 0 _ rfl
    rw [ttA_2, if_neg (by decide), if_neg (by decide), if_neg (by decide), trN_ok j (by rw [lfN_2] at hj; exact hj) idx hi]
    exact this
  · have la := lvT_len a wa
    have eL : lfN (aN op v' w a b .nil) = lfN a + lfN b := by
      rw [lfN_2, if_neg (by omega)]
    rw [eL] at hj
    rw [lvT_2, if_neg (by omega)] at h
    have h1' := ha j (by omega) (fun i l hl => h i l (by rw [List.getElem?_append_left (List.getElem?_eq_some_iff.mp hl).1]; exact hl))
    have h2' := hb (j + lfN a) (by omega) (fun i l hl => by
      rw [Nat.add_assoc]
      exact h (lfN a + i) l (by rw [List.getElem?_append_right (by omega), show lfN a + i - (lvT a).length = i by omega]; exact hl))
    rw [ttA_2, tsB_2]
    rcases h1 with rfl | rfl
    · rw [if_pos rfl, if_pos rfl, tb_or, h1', h2']
    · rw [if_neg (by decide), if_pos rfl, if_neg (by decide), if_pos rfl, tb_and, h1', h2']
  · have eL : lfN (aN 22 v' w a .nil .nil) = lfN a := by
      rw [lfN_2, if_neg (by decide)]
      rfl
    rw [eL] at hj
    rw [lvT_2, if_neg (by decide)] at h
    have h1' := ha j (by omega) (fun i l hl => h i l (by rw [List.getElem?_append_left (List.getElem?_eq_some_iff.mp hl).1]; exact hl))
    rw [ttA_2, tsB_2, if_neg (by decide), if_neg (by decide), if_pos rfl, if_neg (by decide), if_neg (by decide), if_pos rfl, tb_xor, tb_m1 hi, h1']
    cases tsB bl k v a <;> rfl
theorem eqA_len (sp : List Spc) (p : Nat) : (eqA sp p).length = if hsI sp p = true then 1 else 0 := by
  unfold eqA
  split <;> rfl
end PASK
/-! THE CLASS: a method's cuts -/
theorem WMc.xf {E : Nat → Prop} {C : Nat × Nat × Nat × Nat} {a0 : Nat} {ms : List (Mtd × Bool)} {σ τ : Sg} (m : WMc C a0 ms σ) (g : XF E σ τ) (hE : ∀ a, E a → 46 ≤ a ∧ a ≤ 101) (hC : (C.2.1 = 25 ∨ 102 ≤ C.2.1) ∧ (C.2.2.1 = 26 ∨ 102 ≤ C.2.2.1) ∧ (C.2.2.2 = 27 ∨ 102 ≤ C.2.2.2)) : WMc C a0 ms τ := by
  have gi : ∀ a j, a < 46 ∨ 101 < a → τ.i a j = σ.i a j := fun a j q => congrFun (g.2.2 a (fun z => by have := hE a z; omega)).1 j
  have gl : ∀ a j, a < 46 ∨ 101 < a → τ.l a j = σ.l a j := fun a j q => congrFun (g.2.2 a (fun z => by have := hE a z; omega)).2 j
  exact m.keep (gi 10 0 (by omega)) ((gi 24 3 (by omega)).trans m.2.2.1) ⟨Nat.le_refl _, m.2.2.2.1.2⟩ (fun a j q => gi a j (by unfold mtI at q; omega)) (fun a j q => gl a j (by unfold mtL at q; omega)) (fun j _ => ⟨gi _ j (by omega), gi _ j (by omega), gi _ j (by omega)⟩)
theorem SkR.xf {E : Nat → Prop} {C : Nat × Nat × Nat × Nat} {a0 : Nat} {W : Wld} {σ τ : Sg} (h : SkR C W a0 σ) (g : XF E σ τ) (hE : ∀ a, E a → 46 ≤ a ∧ a ≤ 101) : SkR C W a0 τ := by
  obtain ⟨f, ⟨k1, k2, k3⟩, w, ⟨c1, c2⟩, m, wf, y⟩ := h
  have gi : ∀ a j, a < 46 ∨ 101 < a → τ.i a j = σ.i a j := fun a j q => congrFun (g.2.2 a (fun z => by have := hE a z; omega)).1 j
  exact ⟨g.fx f, ⟨(gi 28 0 (by omega)).trans k1, k2, fun k x hx => (gi 3 k (by omega)).trans (k3 k x hx)⟩, w.keep k2 (fun k _ => ⟨gi 4 k (by omega), gi 5 k (by omega), fun w _ i _ => ⟨gi 7 _ (by omega), gi 8 _ (by omega)⟩⟩), ⟨c1, fun k x hx => ⟨(gi 31 k (by omega)).trans (c2 k x hx).1, (c2 k x hx).2⟩⟩, m.xf g hE y, wf, y⟩
theorem SpA.xf {A : Nat} (h : SpA A) {σ τ : Sg} (g : AcF A σ τ) : XF (fun a => 46 ≤ a ∧ a ≤ 101) σ τ := g.1.mono (fun a q => by unfold SpA at h; omega)
/-- the kinds asked for: kA the row, pl places -/
def KaS (W : Wld) (kA pl : Nat) (k : Nat → Nat) (σ : Sg) : Prop := (∃ n, 3 ≤ n ∧ σ.sh[kA]? = some (Sh.arr 0 n)) ∧ ∀ p, p < pl → σ.i kA p = Int32.ofNat (k p) ∧ k p < W.1.length
theorem KaS.xf {E : Nat → Prop} {W : Wld} {kA pl : Nat} {k : Nat → Nat} {σ τ : Sg} (h : KaS W kA pl k σ) (g : XF E σ τ) (hE : ¬ E kA) : KaS W kA pl k τ := by
  unfold KaS
  rw [g.1, (g.2.2 kA hE).1]
  exact h
section CUTBY
variable {Z : zT} {d A : Nat} {as : List AkQ} {q : AkQ} {σ τ υ : Sg} {K : kS} {C : Nat × Nat × Nat × Nat} {W : Wld} {a0 j kA pl : Nat} {k : Nat → Nat} {x : Mtd × Bool}
theorem SkR.at (h : SkR C W a0 σ) (hx : W.2.2.2[j]? = some x) : j < 120 ∧ MtC C a0 (j + 1) x σ ∧ WfM W x.1 := by
  have h1 := h.2.2.2.2.1
  have h2 := (List.getElem?_eq_some_iff.mp hx).1
  have := h1.2.1
  exact ⟨by omega, h1.2.2.2.2 j x hx, h.2.2.2.2.2.1.2.2 x (List.mem_of_getElem? hx)⟩
theorem sp_r {sp : List Spc} (h : ∀ s ∈ sp, (0 ≤ s.1 ∧ s.1 < (W.1.length : Int)) ∧ (-2147483647 ≤ s.2.2 ∧ s.2.2 ≤ 2147483647)) (p : Nat) : -2147483647 ≤ eqI sp p ∧ eqI sp p ≤ 2147483647 := by
  unfold eqI
  rw [List.getD_eq_getElem?_getD]
  cases e : sp[p]? with
  | none => exact ⟨by decide, by decide⟩
  | some s => exact (h s (List.mem_of_getElem? e)).2
theorem sp_no {sp : List Spc} {p : Nat} (h : sp.length ≤ p) : hsI sp p = false := by
  unfold hsI
  rw [List.getD_eq_getElem?_getD, List.getElem?_eq_none h]
  rfl
/-- a number that it wants -/
theorem cb_17 {p : Nat} {l4 : Int32} (hA : SpA A) (h : SkR C W a0 σ) (hx : W.2.2.2[j]? = some x) (S : SpS A as σ) (hl : as.length + (eqA x.1.2.2.2.1 p).length ≤ 18) (hp : p < 3) (kk : ∀ τ, AcF A σ τ → SpS A (as ++ eqA x.1.2.2.2.1 p) τ → C_X9_cutBy_17 Z (d + 2) τ A (Int32.ofNat (j + 1)) kA l4 (Int32.ofNat (p + 1)) K) : C_X9_cutBy_17 Z (d + 2) σ A (Int32.ofNat (j + 1)) kA l4 (Int32.ofNat p) K := by
  obtain ⟨hj, mt, wf⟩ := h.at hx
  obtain ⟨c1, c2, c3⟩ := mt.2.2.2.1 p hp
  obtain ⟨k0, w1, w2, w3, w4, w5, w6, -⟩ := wf
  have r := sp_r w6 p
  refine T_X9_cutBy_17 h.1 hA.p ?_
  rw [show (3 : Int32) ≤ Int32.ofNat p ↔ 3 ≤ p from oN_le (a := 3) (by decide) (by omega), show (3 : Int32) = Int32.ofNat 3 from rfl, oN_mul, oN_add, oN_t (by omega), show (j + 1) * 3 + p = 3 * (j + 1) + p by omega, c2, c3, oN_1]
  refine ⟨fun z => absurd z (by omega), fun _ => ⟨ib_oN (by omega) (by decide), fun z => ?_, fun z => ⟨ib_oN (by omega) (by decide), ?_⟩⟩⟩
  · have e : ¬ hsI x.1.2.2.2.1 p = true := fun y => by
      unfold hsI at y
      rw [if_pos y] at z
      exact absurd z (by decide)
    have e0 : eqA x.1.2.2.2.1 p = [] := if_neg e
    refine kk σ (AcF.refl _ _) ?_
    rw [e0, List.append_nil]
    exact S
  · have e : hsI x.1.2.2.2.1 p = true := Classical.byContradiction fun y => by
      unfold hsI at y
      rw [if_neg y] at z
      exact absurd rfl z
    have e0 : eqA x.1.2.2.2.1 p = [(true, p + 1, 0, eqI x.1.2.2.2.1 p)] := if_pos e
    rw [e0] at hl kk
    have hl : as.length + 1 ≤ 18 := hl
    have e' : (x.1.2.2.2.1.getD p (0, false, 0)).2.1 = true := e
    rw [if_pos e']
    refine cl_addCut (q := (true, p + 1, 0, eqI x.1.2.2.2.1 p)) hA h.1 S (by omega) ⟨fun _ => rfl, fun _ => rfl⟩ ?_ (by dsimp only; omega) kk
    rw [Int32.toInt_toInt64]
    exact Int32.toInt_ofInt_of_le (by show -2147483648 ≤ eqI x.1.2.2.2.1 p; omega) (by show eqI x.1.2.2.2.1 p < 2147483648; omega)
/-- its tests -/
theorem cb_71 {l4 : Int32} (hA : SpA A) (hk : kA < A ∨ A + 5 < kA) (hx : W.2.2.2[j]? = some x) (hpl : plW W.2.1 x.1.1.toNat = pl) : ∀ (n i : Nat) (σ : Sg) (as : List AkQ), i + n = (lvT x.1.2.2.2.2.1).length → SkR C W a0 σ → KaS W kA pl k σ → SpS A as σ → as.length + n ≤ 18 → (∀ τ, AcF A σ τ → SpS A (as ++ ((lvT x.1.2.2.2.2.1).drop i).map (lfA (blW W.1) k)) τ → K (.inl (some (.int l4))) τ) → C_X9_cutBy_71 Z (d + 2) σ A (Int32.ofNat (j + 1)) kA l4 (Int32.ofNat (6 * (j + 1) + i)) K := by
  intro n
  induction n with
  | zero =>
    intro i σ as hn h ka S hl kk
    obtain ⟨hj, mt, wf⟩ := h.at hx
    obtain ⟨t1, t2, t3, t4, t5⟩ := mt.2.2.2.2.1
    refine T_X9_cutBy_71 h.1 hA.p ?_
    rw [oN_t (by omega), t1, show (6 : Int32) = Int32.ofNat 6 from rfl, oN_mul, oN_add, oN_le (by omega) (by omega)]
    refine ⟨ib_oN (by omega) (by decide), fun _ => ?_, fun z => absurd (by omega) z⟩
    have := kk σ (AcF.refl _ _)
    rw [List.drop_of_length_le (by omega), List.map_nil, List.append_nil] at this
    exact this S
  | succ n ih =>
    intro i σ as hn h ka S hl kk
    obtain ⟨hj, mt, wf⟩ := h.at hx
    obtain ⟨t1, t2, t3, t4, t5⟩ := mt.2.2.2.2.1
    obtain ⟨l, hi⟩ : ∃ l, (lvT x.1.2.2.2.2.1)[i]? = some l := ⟨_, List.getElem?_eq_getElem (by omega)⟩
    have hm := List.mem_of_getElem? hi
    have lf := t4 i l hi
    obtain ⟨k0, w1, w2, w3, w4, w5, w6, w7, -⟩ := wf
    rw [w1, Int.toNat_natCast] at hpl
    rw [hpl] at w7
    have tw : tsW W.1.length pl x.1.2.2.2.2.1 := by
      rcases w7 with e | e
      · rw [e] at hm
        cases hm
      · exact e
    have p3 : pl ≤ 3 := by
      rw [← hpl]
      unfold plW
      rw [List.getElem?_eq_getElem w2]
      exact (h.2.2.2.1.2 k0 _ (List.getElem?_eq_getElem w2)).2.2
    have ed : (lvT x.1.2.2.2.2.1).drop i = l :: (lvT x.1.2.2.2.2.1).drop (i + 1) := by
      obtain ⟨q1, q2⟩ := List.getElem?_eq_some_iff.mp hi
      rw [← q2]
      exact (List.getElem_cons_drop (h := q1)).symm
    have nxt : ∀ τ, AcF A σ τ → SpS A (as ++ [lfA (blW W.1) k l]) τ → C_X9_cutBy_71 Z (d + 2) τ A (Int32.ofNat (j + 1)) kA l4 (Int32.ofNat (6 * (j + 1) + (i + 1))) K := fun τ f St => by
      refine ih (i + 1) τ _ (by omega) (h.xf (hA.xf f) (fun a q => q)) (ka.xf f.1 (by omega)) St (by rw [List.length_append, List.length_singleton]; omega) (fun υ g Su => kk υ (f.tr g) ?_)
      rw [ed, List.map_cons]
      rw [List.append_assoc] at Su
      exact Su
    have bd := lfA_W (bl := blW W.1) (k := k) tw hm p3
    refine T_X9_cutBy_71 h.1 hA.p ?_
    rw [oN_t (by omega), t1, show (6 : Int32) = Int32.ofNat 6 from rfl, oN_mul, oN_add, oN_le (by omega) (by omega), oN_t (by omega), oN_1]
    refine ⟨ib_oN (by omega) (by decide), fun z => absurd z (by omega), fun _ => ⟨ib_oN (by omega) (by decide), ?_⟩⟩
    rcases lf with ⟨ty, pa, pb, mo, el, f1, f2, f3, f4⟩ | ⟨kd, v, el, f1, f2, f3, f4⟩
    · rcases lv_c _ tw l hm with ⟨y, w, pb', mo', e2, h1, h2, h3, h4⟩ | ⟨y, w, e2, -⟩
      · rw [el] at e2
        injection e2 with _ e2
        injection e2 with e3 e2
        injection e2 with e4 e2
        injection e2 with e5 e2
        injection e5 with e6 e5
        injection e5 with e7 e5
        subst e4 e6 e7
        have eq : lfA (blW W.1) k l = (decide ((ty : Int) = 16), (pa + 1).toNat, (pb + 1).toNat, -mo - if (ty : Int) = 15 then 1 else 0) := by
          rw [el]
          rfl
        rw [eq] at nxt bd
        have i15 : (if (ty : Int) = 15 then (1 : Int) else 0) = if ty = 15 then 1 else 0 := by
          by_cases q : ty = 15
          · rw [if_pos q, if_pos (by omega)]
          · rw [if_neg q, if_neg (by omega)]
        refine ⟨fun _ => ⟨ib_oN (by omega) (by decide), ib_oN (by omega) (by decide), ib_oN (by omega) (by decide), ib_oN (by omega) (by decide), ?_⟩, fun z => ?_⟩
        · rw [f1, f2, f3, f4, show pa + 1 = (((pa + 1).toNat : Nat) : Int) by omega, show pb + 1 = (((pb + 1).toNat : Nat) : Int) by omega]
          refine cl_addCut (q := (decide ((ty : Int) = 16), (pa + 1).toNat, (pb + 1).toNat, -mo - if (ty : Int) = 15 then 1 else 0)) hA h.1 S (by omega) ?_ ?_ bd.2.2 nxt
          · by_cases q : ty = 16
            · rw [if_pos q]
              exact ⟨fun _ => decide_eq_true (by omega), fun _ => rfl⟩
            · rw [if_neg q]
              exact ⟨fun z => absurd z (by decide), fun z => absurd (of_decide_eq_true z) (by omega)⟩
          · rw [i15]
            refine Int64.toInt_ofInt_of_le ?_ ?_
            · show -9223372036854775808 ≤ _
              split <;> omega
            · show _ < 9223372036854775808
              split <;> omega
        · rw [f1] at z
          split at z <;> exact absurd z (by decide)
      · rw [el] at e2
        injection e2 with e2 _
        exact absurd e2 (by decide)
    · rcases lv_c _ tw l hm with ⟨y, w, pb', mo', e2, -⟩ | ⟨y, w, e2, h1, h2⟩
      · rw [el] at e2
        injection e2 with e2 _
        exact absurd e2 (by decide)
      · rw [el] at e2
        injection e2 with _ e2
        injection e2 with e3 e2
        injection e2 with e4 e2
        subst e3 e4
        obtain ⟨⟨nn, n3, hs⟩, hkk⟩ := ka
        obtain ⟨kp, kl⟩ := hkk v.toNat (by omega)
        have l24 := h.2.1.2.1
        have eq : lfA (blW W.1) k l = (false, 0, 0, if blW W.1 (k v.toNat) kd.toNat = true then 0 else -1) := by
          rw [el]
          rfl
        rw [eq] at nxt bd
        refine ⟨fun z => absurd f1 z, fun _ => ⟨ib_oN (by omega) (by decide), nn, hs, ?_⟩⟩
        rw [f2, f3, show v + 1 = ((v.toNat + 1 : Nat) : Int) by omega, show kd = ((kd.toNat : Nat) : Int) by omega]
        have em : Int32.ofInt ((v.toNat + 1 : Nat) : Int) - 1 = Int32.ofNat v.toNat := oN_p1 (m := v.toNat + 1) (by omega)
        rw [em, oN_t (by omega), kp]
        refine ⟨ib_i (by rw [oN_i (by omega)]; omega) (by rw [oN_i (by omega)]; omega), ib_oN (by omega) (by decide), ?_⟩
        have hb : ∀ b : Bool, blW W.1 (k v.toNat) kd.toNat = b → ∀ l4' : Int64, l4'.toInt = (if b = true then 0 else -1) → C_X9_addCut_0 Z (d + 1) σ A 0 0 0 l4' (yN K fun τ => C_X9_cutBy_71 Z (d + 2) τ A (Int32.ofNat (j + 1)) kA l4 (Int32.ofNat (6 * (j + 1) + (i + 1))) K) := fun b hb l4' h4 => by
          rw [hb] at nxt bd
          exact cl_addCut (q := (false, 0, 0, if b = true then 0 else -1)) hA h.1 S (by omega) ⟨fun z => absurd z (by decide), fun z => by cases z⟩ h4 bd.2.2 nxt
        refine cl_below (k := k v.toNat) (y := kd.toNat) h kl (by omega) ?_
        by_cases hb' : kd.toNat ∈ rwW W.1 1 (k v.toNat)
        · rw [if_pos hb']
          refine ⟨fun z => absurd z (by decide), fun _ => hb true (decide_eq_true hb') 0 (by decide)⟩
        · rw [if_neg hb']
          refine ⟨fun _ => hb false (decide_eq_false hb') (-1) (by decide), fun z => absurd rfl z⟩
/-- by what a method asks -/
theorem cl_cutBy (hA : SpA A) (hk : kA < A ∨ A + 5 < kA) (hx : W.2.2.2[j]? = some x) (hpl : plW W.2.1 x.1.1.toNat = pl) (h : SkR C W a0 σ) (ka : KaS W kA pl k σ) (S : SpS A as σ) (hl : as.length + (asQ (blW W.1) k x.1.2.2.2.1 x.1.2.2.2.2.1).length ≤ 18) (kk : ∀ τ, AcF A σ τ → SpS A (as ++ asQ (blW W.1) k x.1.2.2.2.1 x.1.2.2.2.2.1) τ → K (.inl (some (.int (Int32.ofNat as.length)))) τ) : C_X9_cutBy_0 Z (d + 2) σ A (Int32.ofNat (j + 1)) kA K := by
  have hl' := hl
  unfold asQ at hl'
  rw [List.length_append, List.length_append, List.length_append, List.length_map] at hl'
  refine T_X9_cutBy_0 h.1 hA.p ?_
  rw [S.2.1.1]
  refine cb_17 (p := 0) hA h hx S (by omega) (by omega) (fun τ0 f0 S0 => ?_)
  refine cb_17 (p := 1) hA (h.xf (hA.xf f0) (fun a q => q)) hx S0 (by rw [List.length_append]; omega) (by omega) (fun τ1 f1 S1 => ?_)
  have f01 := f0.tr f1
  refine cb_17 (p := 2) hA (h.xf (hA.xf f01) (fun a q => q)) hx S1 (by rw [List.length_append, List.length_append]; omega) (by omega) (fun τ2 f2 S2 => ?_)
  have f02 := f01.tr f2
  have h2 := h.xf (hA.xf f02) (fun a q => q)
  have hj := (h.at hx).1
  refine T_X9_cutBy_17 h2.1 hA.p ⟨fun _ => ?_, fun z => absurd (by decide) z⟩
  rw [show (6 : Int32) = Int32.ofNat 6 from rfl, oN_mul, show (j + 1) * 6 = 6 * (j + 1) + 0 by omega]
  refine cb_71 hA hk hx hpl (lvT x.1.2.2.2.2.1).length 0 τ2 _ (by omega) h2 (ka.xf f02.1 (by omega)) S2 (by rw [List.length_append, List.length_append, List.length_append]; omega) (fun υ g Su => kk υ (f02.tr g) ?_)
  rw [List.drop_zero, List.append_assoc, List.append_assoc, List.append_assoc] at Su
  exact Su
end CUTBY

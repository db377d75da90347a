/-! PURE: sets of methods, as the lists of the other side read them -/
def anZ (W : Wld) (p m : Nat) : Bool := (mkW W.1).any fun k => fiZ W p k m
def awZ (W : Wld) (p m : Nat) : Bool := (mkW W.1).all fun k => fiZ W p k m
/-- those that can be chosen at all -/
def lvZ (W : Wld) (c n m : Nat) : Bool := mnS W c m && (List.range n).all fun p => anZ W p m
/-- whether a place matters to a set -/
def mtZ (W : Wld) (p : Nat) (s : Nat → Bool) : Bool := (List.range 128).any fun j => s (j + 1) && !awZ W p (j + 1)
def orP (p q : Int64 × Int64) : Int64 × Int64 := (p.1 ||| q.1, p.2 ||| q.2)
theorem pb_orP (p q : Int64 × Int64) (m : Nat) : pb (orP p q) m = (pb p m || pb q m) := by
  unfold pb orP
  split <;> exact tb_or ..
theorem pb_z (m : Nat) : pb (0, 0) m = false := by
  unfold pb
  split <;> exact tb_0 _
theorem pb_nt (p q : Int64 × Int64) (m : Nat) : pb (p.1 &&& (q.1 ^^^ (-1 : Int64)), p.2 &&& (q.2 ^^^ (-1 : Int64))) m = (pb p m && !pb q m) := by
  have lt : (m - 1) % 64 < 64 := Nat.mod_lt _ (by decide)
  unfold pb
  split
  · rw [tb_and, tb_xor, tb_m1 lt]
    cases tb q.1 ((m - 1) % 64) <;> rfl
  · rw [tb_and, tb_xor, tb_m1 lt]
    cases tb q.2 ((m - 1) % 64) <;> rfl
/-! THE CLASS: what the lists read of the world, with growth -/
def CvN (C V : Nat × Nat × Nat × Nat) (σ : Sg) : Prop := (∀ a, (a = C.2.1 ∨ a = C.2.2.1 ∨ a = C.2.2.2) → a < σ.sh.length ∧ a ≠ V.2.1 ∧ a ≠ V.2.2.1 ∧ a ≠ V.2.2.2) ∧ 46 < σ.sh.length ∧ sqA σ < σ.sh.length ∧ sqA σ ≠ V.2.1 ∧ sqA σ ≠ V.2.2.1 ∧ sqA σ ≠ V.2.2.2
section LIVE
variable {Z : zT} {d A u : Nat} {σ τ υ : Sg} {K : kS} {C : Nat × Nat × Nat × Nat} {V V' V2 : Nat × Nat × Nat × Nat} {W : Wld} {wy a0 j j' kA pl w c : Nat} {k k' : Nat → Nat} {S : List (Int64 × Int64)}
theorem QwS.gf {E : Nat → Prop} (h : QwS C W wy a0 σ) (g : GwF E σ τ) (hE : ∀ a, E a → 46 ≤ a) (hC : ∀ a, (a = C.2.1 ∨ a = C.2.2.1 ∨ a = C.2.2.2) → a < σ.sh.length ∧ ¬ E a) : QwS C W wy a0 τ := by
  have l100 : 101 < σ.sh.length := (List.getElem?_eq_some_iff.mp (h.1.1.s (a := 101) t0_101)).1
  have gi : ∀ a j, a < 46 → τ.i a j = σ.i a j := fun a j q => congrFun (g.2.2 a (by omega) (fun z => by have := hE a z; omega)).1 j
  have gl : ∀ a j, a < 46 → τ.l a j = σ.l a j := fun a j q => congrFun (g.2.2 a (by omega) (fun z => by have := hE a z; omega)).2 j
  have gc : ∀ a j, (a = C.2.1 ∨ a = C.2.2.1 ∨ a = C.2.2.2) → τ.i a j = σ.i a j := fun a j q => congrFun (g.2.2 a (hC a q).1 (hC a q).2).1 j
  obtain ⟨⟨f, ⟨k1, k2, k3⟩, ww, ⟨c1, c2⟩, m, wf, y⟩, h2, h3, h4, h5⟩ := h
  refine ⟨⟨g.fx f, ⟨(gi 28 0 (by omega)).trans k1, k2, fun k x hx => (gi 3 k (by omega)).trans (k3 k x hx)⟩, ww.keep k2 (fun k _ => ⟨gi 4 k (by omega), gi 5 k (by omega), fun w _ i _ => ⟨gi 7 _ (by omega), gi 8 _ (by omega)⟩⟩), ⟨c1, fun k x hx => ⟨(gi 31 k (by omega)).trans (c2 k x hx).1, (c2 k x hx).2⟩⟩, m.keep (gi 10 0 (by omega)) ((gi 24 3 (by omega)).trans m.2.2.1) ⟨Nat.le_refl _, m.2.2.2.1.2⟩ (fun a j q => gi a j (by unfold mtI at q; omega)) (fun a j q => gl a j (by unfold mtL at q; omega)) (fun j _ => ⟨gc _ j (Or.inl rfl), gc _ j (Or.inr (Or.inl rfl)), gc _ j (Or.inr (Or.inr rfl))⟩), wf, y⟩, h2.keep (fun k _ => ⟨gi 32 k (by omega), gi 33 k (by omega)⟩), ⟨(gi 1 15 (by omega)).trans h3.1, h3.2⟩, h4.keep (gi 1 14 (by omega)) (fun j => gi 38 j (by omega)) (fun b j _ _ => gl b j (by omega)), h5.1, h5.2.1, fun a q => by
    have := h5.2.2 a q
    have hl := g.len
    rw [sqA_g (g.2.1 46 3 (by omega) (by omega))]
    omega⟩
/-- what counting sets leaves as it is -/
def LsF (V V' : Nat × Nat × Nat × Nat) (σ τ : Sg) : Prop := GwF (seE V) σ τ ∧ S6F σ τ ∧ SzG σ τ V.1 V'.1 ∧ (V'.2.1 = V.2.1 ∨ σ.sh.length ≤ V'.2.1) ∧ (V'.2.2.1 = V.2.2.1 ∨ σ.sh.length ≤ V'.2.2.1) ∧ (V'.2.2.2 = V.2.2.2 ∨ σ.sh.length ≤ V'.2.2.2)
theorem LsF.refl (V : Nat × Nat × Nat × Nat) (σ : Sg) : LsF V V σ σ := ⟨GwF.refl _ _, fun _ _ _ => rfl, SzG.refl rfl, Or.inl rfl, Or.inl rfl, Or.inl rfl⟩
theorem LsF.tr (h : LsF V V' σ τ) (g : LsF V' V2 τ υ) : LsF V V2 σ υ := by
  obtain ⟨h1, h2, h3, h4, h5, h6⟩ := h
  obtain ⟨g1, g2, g3, g4, g5, g6⟩ := g
  have hl := h1.len
  refine ⟨h1.tr g1 (fun a ha q => ?_), fun k q1 q2 => (g2 k q1 q2).trans (h2 k q1 q2), h3.tr g3, by omega, by omega, by omega⟩
  unfold seE at q ⊢
  omega
theorem XF.ls (h : XF (seE V) σ τ) (g : S6F σ τ) : LsF V V σ τ := ⟨h.gf, g, SzG.refl h.1, Or.inl rfl, Or.inl rfl, Or.inl rfl⟩
theorem SeA.a46 (A : SeA σ V) {a : Nat} (q : seE V a) : 56 ≤ a := by
  obtain ⟨-, -, -, -, h1, h2, h3, -⟩ := A
  unfold seE at q
  omega
theorem QwS.ls (h : QwS C W wy a0 σ) (A : SeA σ V) (cv : CvN C V σ) (g : LsF V V' σ τ) : QwS C W wy a0 τ := h.gf g.1 (fun a q => by have := A.a46 q; omega) (fun a q => ⟨(cv.1 a q).1, fun z => by
  have := cv.1 a q
  have y := h.1.2.2.2.2.2.2
  unfold seE at z
  omega⟩)
theorem CvN.ls (cv : CvN C V σ) (g : LsF V V' σ τ) : CvN C V' τ := by
  have hl := g.1.len
  obtain ⟨c1, c0, c2⟩ := cv
  have e := sqA_g (g.1.2.1 46 3 c0 (by omega))
  obtain ⟨-, -, -, g4, g5, g6⟩ := g
  refine ⟨fun a q => ?_, by omega, ?_⟩
  · have := c1 a q
    omega
  · rw [e]
    omega
theorem CvN.xf {E : Nat → Prop} (cv : CvN C V σ) (g : XF E σ τ) : CvN C V τ := by
  unfold CvN
  rw [g.1, sqA_g (show τ.r 46 3 = σ.r 46 3 by rw [g.2.1])]
  exact cv
/-- the pairs of the world -/
def fpC (σ : Sg) (p k : Nat) : Int64 × Int64 := (σ.l 36 (p * 24 + k), σ.l 37 (p * 24 + k))
def lpC (σ : Sg) (c : Nat) : Int64 × Int64 := (σ.l 58 c, σ.l 59 c)
def apC (σ : Sg) (c p : Nat) : Int64 × Int64 := (σ.l 60 (3 * c + p), σ.l 61 (3 * c + p))
/-- what was found of call c -/
def LvS (W : Wld) (c : Nat) (σ : Sg) : Prop := (∀ m, 1 ≤ m → m ≤ 128 → pb (lpC σ c) m = lvZ W c (plW W.2.1 c) m) ∧ ∀ p, p < plW W.2.1 c → ∀ m, 1 ≤ m → m ≤ 128 → pb (apC σ c p) m = awZ W p m
theorem mk_24 (h : QwS C W wy a0 σ) : (mkW W.1).length ≤ 24 := by
  have : (mkW W.1).length ≤ W.1.length := by
    unfold mkW
    exact Nat.le_trans (List.length_filter_le ..) (by rw [List.length_range]; exact Nat.le_refl _)
  have := h.1.2.1.2.1
  omega
theorem QwS.cx (h : QwS C W wy a0 σ) (hc : c < W.2.1.length) : c < 24 ∧ σ.i 31 c = Int32.ofNat (plW W.2.1 c) ∧ 1 ≤ plW W.2.1 c ∧ plW W.2.1 c ≤ 3 := by
  have c24 := h.1.2.2.2.1.1
  have cx := List.getElem?_eq_getElem hc
  obtain ⟨p31, p1⟩ := h.1.2.2.2.1.2 _ _ cx
  have ep : (W.2.1[c]).2.1 = plW W.2.1 c := by
    unfold plW
    rw [cx]
    rfl
  rw [ep] at p31 p1
  exact ⟨by omega, p31, p1⟩
theorem QwS.mk {i : Nat} (h : QwS C W wy a0 σ) (hi : i < (mkW W.1).length) : ∃ y, (mkW W.1)[i]? = some y ∧ y < W.1.length ∧ y < 24 ∧ σ.i 38 i = Int32.ofNat y := by
  have e := List.getElem?_eq_getElem hi
  have := mk_lt (List.mem_of_getElem? e)
  have l24 := h.1.2.1.2.1
  exact ⟨_, e, this, by omega, h.2.2.2.1.1.2 i _ e⟩
theorem pb_fp (h : QwS C W wy a0 σ) {p y m : Nat} (hp : p < 3) (hy : y < W.1.length) (m1 : 1 ≤ m) (m2 : m ≤ 128) : pb (fpC σ p y) m = fiZ W p y m := h.2.2.2.1.2.2 p y hp hy m m1 m2
/-- the makeable kinds of one place -/
theorem fl_63 {p : Nat} (hp : p < 3) (hc : c < 24) (h : QwS C W wy a0 σ) (kk : ∀ so al : Int64 × Int64, (∀ m, 1 ≤ m → m ≤ 128 → pb so m = anZ W p m) → (∀ m, 1 ≤ m → m ≤ 128 → pb al m = awZ W p m) → C_X3_findLive_32 Z (d + 1) ((((σ.wl 58 c ((σ.l 58 c) &&& so.1)).wl 59 c ((σ.l 59 c) &&& so.2)).wl 60 (3 * c + p) al.1).wl 61 (3 * c + p) al.2) (Int32.ofNat c) (Int32.ofNat (p + 1)) K) : ∀ (n i : Nat) (so al : Int64 × Int64), i + n = (mkW W.1).length → (∀ m, 1 ≤ m → m ≤ 128 → pb so m = ((mkW W.1).take i).any fun k => fiZ W p k m) → (∀ m, 1 ≤ m → m ≤ 128 → pb al m = ((mkW W.1).take i).all fun k => fiZ W p k m) → C_X3_findLive_63 Z (d + 1) σ (Int32.ofNat c) (Int32.ofNat p) so.1 so.2 al.1 al.2 (Int32.ofNat i) K := by
  have n24 := mk_24 h
  intro n
  induction n with
  | zero =>
    intro i so al hi h1 h2
    rw [List.take_of_length_le (by omega)] at h1 h2
    refine T_X3_findLive_63 h.1.1 ?_
    rw [h.2.2.2.1.1.1, oN_le (by omega) (by omega), oN_t (by omega), show (3 : Int32) = Int32.ofNat 3 from rfl, oN_mul, oN_add, oN_t (by omega), show c * 3 + p = 3 * c + p by omega, oN_1]
    exact ⟨fun _ => ⟨ib_oN hc (by decide), ib_oN hc (by decide), ib_oN hc (by decide), ib_oN hc (by decide), ib_oN (by omega) (by decide), ib_oN (by omega) (by decide), kk so al h1 h2⟩, fun z => absurd (by omega) z⟩
  | succ n ih =>
    intro i so al hi h1 h2
    obtain ⟨y, hy, yl, y24, ey⟩ := h.mk (i := i) (by omega)
    have et : (mkW W.1).take (i + 1) = (mkW W.1).take i ++ [y] := by
      rw [List.take_succ, hy]
      rfl
    refine T_X3_findLive_63 h.1.1 ?_
    rw [h.2.2.2.1.1.1, oN_le (by omega) (by omega), oN_t (by omega), oN_t (by omega), ey, show (24 : Int32) = Int32.ofNat 24 from rfl, oN_mul, oN_add, oN_t (by omega), oN_1 i]
    refine ⟨fun z => absurd z (by omega), fun _ => ⟨ib_oN (by omega) (by decide), ib_oN (by omega) (by decide), ib_oN (by omega) (by decide), ib_oN (by omega) (by decide), ib_oN (by omega) (by decide), ?_⟩⟩
    refine ih (i + 1) (orP so (fpC σ p y)) (anP al (fpC σ p y)) (by omega) (fun m m1 m2 => ?_) (fun m m1 m2 => ?_)
    · rw [pb_orP, h1 m m1 m2, pb_fp h hp yl m1 m2, et, List.any_append]
      simp
    · rw [pb_an, h2 m m1 m2, pb_fp h hp yl m1 m2, et, List.all_append]
      simp
/-- what finding them writes -/
def FlF (c : Nat) (σ τ : Sg) : Prop := XF (fun a => 58 ≤ a ∧ a ≤ 61) σ τ ∧ (∀ a, τ.i a = σ.i a) ∧ (∀ k, k ≠ c → τ.l 58 k = σ.l 58 k ∧ τ.l 59 k = σ.l 59 k) ∧ ∀ k, k / 3 ≠ c → τ.l 60 k = σ.l 60 k ∧ τ.l 61 k = σ.l 61 k
theorem FlF.tr {c : Nat} (h : FlF c σ τ) (g : FlF c τ υ) : FlF c σ υ := ⟨h.1.tr g.1, fun a => (g.2.1 a).trans (h.2.1 a), fun k q => ⟨(g.2.2.1 k q).1.trans (h.2.2.1 k q).1, (g.2.2.1 k q).2.trans (h.2.2.1 k q).2⟩, fun k q => ⟨(g.2.2.2 k q).1.trans (h.2.2.2 k q).1, (g.2.2.2 k q).2.trans (h.2.2.2 k q).2⟩⟩
theorem cl_findLive (h : QwS C W wy a0 σ) (hc : c < W.2.1.length) (kk : ∀ τ, FlF c σ τ → LvS W c τ → K (.inl none) τ) : C_X3_findLive_0 Z (d + 1) σ (Int32.ofNat c) K := by
  obtain ⟨c24, ec, p1, p3⟩ := h.cx hc
  have lp : ∀ (n p : Nat) (τ : Sg), p + n = plW W.2.1 c → FlF c σ τ → (∀ m, 1 ≤ m → m ≤ 128 → pb (lpC τ c) m = lvZ W c p m) → (∀ p', p' < p → ∀ m, 1 ≤ m → m ≤ 128 → pb (apC τ c p') m = awZ W p' m) → C_X3_findLive_32 Z (d + 1) τ (Int32.ofNat c) (Int32.ofNat p) K := by
    intro n
    induction n with
    | zero =>
      intro p τ hp f l1 l2
      refine T_X3_findLive_32 (f.1.fx h.1.1) ?_
      rw [oN_t (by omega), f.2.1, ec, oN_le (by omega) (by omega)]
      refine ⟨ib_oN c24 (by decide), fun _ => kk τ f ⟨fun m m1 m2 => ?_, fun p' hp' => l2 p' (by omega)⟩, fun z => absurd (by omega) z⟩
      rw [l1 m m1 m2, show p = plW W.2.1 c by omega]
    | succ n ih =>
      intro p τ hp f l1 l2
      have hq : QwS C W wy a0 τ := h.xf f.1 (fun a q => by omega)
      refine T_X3_findLive_32 (f.1.fx h.1.1) ?_
      rw [oN_t (by omega), f.2.1, ec, oN_le (by omega) (by omega)]
      refine ⟨ib_oN c24 (by decide), fun z => absurd z (by omega), fun _ => ?_⟩
      refine fl_63 (by omega) c24 hq (fun so al h1 h2 => ?_) (mkW W.1).length 0 (0, 0) (-1, -1) (by omega) (fun m _ _ => pb_z m) (fun m _ _ => pb_m1 m)
      have f' : FlF c τ ((((τ.wl 58 c ((τ.l 58 c) &&& so.1)).wl 59 c ((τ.l 59 c) &&& so.2)).wl 60 (3 * c + p) al.1).wl 61 (3 * c + p) al.2) := by
        refine ⟨((((XF.refl _ _).wl (by omega)).wl (by omega)).wl (by omega)).wl (by omega), fun a => rfl, fun k q => ⟨?_, ?_⟩, fun k q => ⟨?_, ?_⟩⟩
        · rw [wl_ne (by omega), wl_ne (by omega), wl_ne (by omega), wl_ne (by omega)]
        · rw [wl_ne (by omega), wl_ne (by omega), wl_ne (by omega), wl_ne (by omega)]
        · rw [wl_ne (by omega), wl_ne (by omega), wl_ne (by omega), wl_ne (by omega)]
        · rw [wl_ne (by omega), wl_ne (by omega), wl_ne (by omega), wl_ne (by omega)]
      refine ih (p + 1) _ (by omega) (f.tr f') (fun m m1 m2 => ?_) (fun p' hp' m m1 m2 => ?_)
      · have e : lpC ((((τ.wl 58 c ((τ.l 58 c) &&& so.1)).wl 59 c ((τ.l 59 c) &&& so.2)).wl 60 (3 * c + p) al.1).wl 61 (3 * c + p) al.2) c = anP (lpC τ c) so := by
          unfold lpC anP
          rw [wl_ne (by omega), wl_ne (by omega), wl_ne (by omega), wl_eq, wl_ne (by omega), wl_ne (by omega), wl_eq]
        rw [e, pb_an, l1 m m1 m2, h1 m m1 m2]
        unfold lvZ
        rw [List.range_succ, List.all_append, Bool.and_assoc]
        simp
      · by_cases q : p' = p
        · subst q
          have e : apC ((((τ.wl 58 c ((τ.l 58 c) &&& so.1)).wl 59 c ((τ.l 59 c) &&& so.2)).wl 60 (3 * c + p') al.1).wl 61 (3 * c + p') al.2) c p' = al := by
            unfold apC
            rw [wl_ne (by omega), wl_eq, wl_eq]
          rw [e]
          exact h2 m m1 m2
        · have e : apC ((((τ.wl 58 c ((τ.l 58 c) &&& so.1)).wl 59 c ((τ.l 59 c) &&& so.2)).wl 60 (3 * c + p) al.1).wl 61 (3 * c + p) al.2) c p' = apC τ c p' := by
            unfold apC
            rw [wl_ne (by omega), wl_ne (by omega), wl_ne (by omega), wl_ne (by omega), wl_ne (by omega), wl_ne (by omega), wl_ne (by omega), wl_ne (by omega)]
          rw [e]
          exact l2 p' (by omega) m m1 m2
  refine T_X3_findLive_0 h.1.1 ?_
  rw [oN_t (by omega)]
  refine ⟨ib_oN c24 (by decide), ib_oN c24 (by decide), ib_oN c24 (by decide), ib_oN c24 (by decide), ?_⟩
  refine lp (plW W.2.1 c) 0 _ (by omega) ⟨((XF.refl _ _).wl (by omega)).wl (by omega), fun a => rfl, fun k q => ⟨?_, ?_⟩, fun k q => ⟨?_, ?_⟩⟩ (fun m m1 m2 => ?_) (fun p' z => absurd z (Nat.not_lt_zero _))
  · rw [wl_ne (by omega), wl_ne (by omega)]
  · rw [wl_ne (by omega), wl_ne (by omega)]
  · rw [wl_ne (by omega), wl_ne (by omega)]
  · rw [wl_ne (by omega), wl_ne (by omega)]
  · have e : lpC ((σ.wl 58 c (σ.l 34 c)).wl 59 c (σ.l 35 c)) c = (σ.l 34 c, σ.l 35 c) := by
      unfold lpC
      rw [wl_ne (by omega), wl_eq, wl_eq]
    rw [e, h.2.2.2.1.2.1 c c24 m m1 m2]
    unfold lvZ
    rw [List.range_zero, List.all_nil, Bool.and_true]
/-- whether a place matters -/
theorem cl_matters {p : Nat} {x : Int64 × Int64} {s : Nat → Bool} (F : FX ΦC σ.sh σ.r) (hc : c < 24) (hp : p < 3) (ha : ∀ m, 1 ≤ m → m ≤ 128 → pb (apC σ c p) m = awZ W p m) (hs : ∀ m, 1 ≤ m → m ≤ 128 → pb x m = s m) (kk : K (.inl (some (.int (if mtZ W p s = true then 1 else 0)))) σ) : C_X3_matters_0 Z (d + 1) σ (Int32.ofNat c) (Int32.ofNat p) x.1 x.2 K := by
  have key : ((x.1 &&& ((apC σ c p).1 ^^^ (-1 : Int64))) = 0 ∧ (x.2 &&& ((apC σ c p).2 ^^^ (-1 : Int64))) = 0) ↔ ¬ mtZ W p s = true := by
    rw [pb_0 (p := (x.1 &&& ((apC σ c p).1 ^^^ (-1 : Int64)), x.2 &&& ((apC σ c p).2 ^^^ (-1 : Int64))))]
    unfold mtZ
    rw [List.any_eq_true]
    constructor
    · rintro g ⟨j, hj, e⟩
      have hj := List.mem_range.mp hj
      have := g (j + 1) (by omega) (by omega)
      rw [pb_nt, hs _ (by omega) (by omega), ha _ (by omega) (by omega), e] at this
      cases this
    · intro g m m1 m2
      rw [pb_nt, hs m m1 m2, ha m m1 m2]
      refine Bool.eq_false_iff.mpr (fun e => g ⟨m - 1, List.mem_range.mpr (by omega), ?_⟩)
      rw [show m - 1 + 1 = m by omega]
      exact e
  refine T_X3_matters_0 F ?_
  rw [show (3 : Int32) = Int32.ofNat 3 from rfl, oN_mul, oN_add, oN_t (by omega), show c * 3 + p = 3 * c + p by omega, cmpE, cmpE]
  have k1 : mtZ W p s = true → K (.inl (some (.int 1))) σ := fun z => by
    rw [if_pos z] at kk
    exact kk
  refine ⟨ib_oN (by omega) (by decide), fun z => k1 (Classical.byContradiction fun q => z (key.mpr q).1), fun z => ⟨ib_oN (by omega) (by decide), fun z2 => ?_, fun z2 => k1 (Classical.byContradiction fun q => z2 (key.mpr q).2)⟩⟩
  rw [if_neg (key.mp ⟨z, z2⟩)] at kk
  exact kk
end LIVE

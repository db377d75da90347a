/-! THE CLASS: which of two is nearer -/
/-- the world, as questions read it -/
def QwS (C : Nat × Nat × Nat × Nat) (W : Wld) (wy a0 : Nat) (σ : Sg) : Prop := SkR C W a0 σ ∧ WJ W.2.1 σ ∧ (σ.i 1 15 = Int32.ofNat wy ∧ wy < 3) ∧ StS W σ ∧ (∀ x ∈ W.2.1, x.2.2.1 ≤ 4 ∧ x.2.2.2 ≤ 2) ∧ W.2.2.1.length ≤ 8 ∧ CnA C σ
section COMP
variable {Z : zT} {d A : Nat} {σ τ υ : Sg} {K : kS} {C : Nat × Nat × Nat × Nat} {W : Wld} {wy a0 j j' kA pl w : Nat} {k k' : Nat → Nat} {x x' : Mtd × Bool}
theorem QwS.xf {E : Nat → Prop} (h : QwS C W wy a0 σ) (g : XF E σ τ) (hE : ∀ a, E a → 46 ≤ a ∧ a ≤ 101) : QwS C W wy a0 τ := by
  have gi : ∀ a j, a < 46 ∨ 101 < a → τ.i a j = σ.i a j := fun a j q => congrFun (g.2.2 a (fun z => by have := hE a z; omega)).1 j
  have gl : ∀ a j, a < 46 ∨ 101 < a → τ.l a j = σ.l a j := fun a j q => congrFun (g.2.2 a (fun z => by have := hE a z; omega)).2 j
  exact ⟨h.1.xf g hE, h.2.1.keep (fun k _ => ⟨gi 32 k (by omega), gi 33 k (by omega)⟩), ⟨(gi 1 15 (by omega)).trans h.2.2.1.1, h.2.2.1.2⟩, h.2.2.2.1.keep (gi 1 14 (by omega)) (fun j => gi 38 j (by omega)) (fun b j _ _ => gl b j (by omega)), h.2.2.2.2.1, h.2.2.2.2.2.1, h.2.2.2.2.2.2.xf g⟩
theorem QwS.nh (h : QwS C W wy a0 σ) (st : sqA σ = 47 ∨ 102 ≤ sqA σ) (g : NhF σ τ) : QwS C W wy a0 τ := by
  have l100 : 101 < σ.sh.length := (List.getElem?_eq_some_iff.mp (h.1.1.s (a := 101) t0_101)).1
  have gi : ∀ a j, a < 46 → τ.i a j = σ.i a j := fun a j q => congrFun (g.1.2.2 a (by omega) (fun z => by unfold neE at z; omega)).1 j
  have gl : ∀ a j, a < 46 → τ.l a j = σ.l a j := fun a j q => congrFun (g.1.2.2 a (by omega) (fun z => by unfold neE at z; omega)).2 j
  exact ⟨h.1.nh h.2.2.2.2.2.2 st g, h.2.1.keep (fun k _ => ⟨gi 32 k (by omega), gi 33 k (by omega)⟩), ⟨(gi 1 15 (by omega)).trans h.2.2.1.1, h.2.2.1.2⟩, h.2.2.2.1.keep (gi 1 14 (by omega)) (fun j => gi 38 j (by omega)) (fun b j _ _ => gl b j (by omega)), h.2.2.2.2.1, h.2.2.2.2.2.1, h.2.2.2.2.2.2.nh g⟩
theorem NhF.row (g : NhF σ τ) (F : FX ΦC σ.sh σ.r) (st : sqA σ = 47 ∨ 102 ≤ sqA σ) {a : Nat} (ha : (a < 46 ∨ 55 < a) ∧ a ≤ 101) : τ.i a = σ.i a ∧ τ.l a = σ.l a := by
  have l100 : 101 < σ.sh.length := (List.getElem?_eq_some_iff.mp (F.s (a := 101) t0_101)).1
  exact g.1.2.2 a (by omega) (fun z => by unfold neE at z; omega)
theorem KaS.nh (h : KaS W kA pl k σ) (st : sqA σ = 47 ∨ 102 ≤ sqA σ) (g : NhF σ τ) (ha : (kA < 46 ∨ 55 < kA) ∧ kA ≤ 101) : KaS W kA pl k τ := h.gn g.1 (fun z => by unfold neE at z; omega)
theorem NeS.sq (h : NeS W σ) : sqA σ = 47 ∨ 102 ≤ sqA σ := by
  obtain ⟨e, ng, -⟩ := h.2
  exact ng.2.2.2.2
theorem NeS.sl (h : NeS W σ) : sqA σ < σ.sh.length := by
  obtain ⟨e, ng, -⟩ := h.2
  exact ng.len
/-- nearness, and more rows -/
def NhE (X : Nat → Prop) (σ τ : Sg) : Prop := GnF (fun a => neE σ a ∨ X a) σ τ ∧ (sqA τ = sqA σ ∨ σ.sh.length ≤ sqA τ) ∧ SzH σ τ 0 0
theorem NhE.refl (X : Nat → Prop) (σ : Sg) : NhE X σ σ := ⟨GnF.refl _ _, Or.inl rfl, SzH.refl rfl rfl⟩
theorem NhE.tr {X : Nat → Prop} (h : NhE X σ τ) (g : NhE X τ υ) : NhE X σ υ := by
  have hl := h.1.len
  obtain ⟨h1, h2, h3⟩ := h
  obtain ⟨g1, g2, g3⟩ := g
  refine ⟨h1.tr g1 (fun a ha q => ?_), by omega, h3.tr g3⟩
  rcases q with q | q
  · refine Or.inl ?_
    unfold neE at q ⊢
    omega
  · exact Or.inr q
theorem NhE.mono {X X' : Nat → Prop} (h : NhE X σ τ) (g : ∀ a, X a → X' a) : NhE X' σ τ := ⟨h.1.mono (fun a _ q => q.elim Or.inl (fun z => Or.inr (g a z))), h.2⟩
theorem NhF.he {X : Nat → Prop} (h : NhF σ τ) : NhE X σ τ := ⟨h.1.mono (fun a _ q => Or.inl q), h.2⟩
theorem XF.he {E X : Nat → Prop} (h : XF E σ τ) (hE : ∀ a, E a → (47 ≤ a ∧ a ≤ 55) ∨ X a) (h46 : ¬ E 46) : NhE X σ τ := by
  refine ⟨h.gn.mono (fun a _ q => ?_), Or.inl (sqA_g (by rw [h.2.1])), SzH.refl h.1 (h.2.2 46 h46).1⟩
  rcases hE a q with z | z
  · exact Or.inl (Or.inl (by omega))
  · exact Or.inr z
theorem NhE.wx {X : Nat → Prop} {a j : Nat} {v : Int32} (h : NhE X σ τ) (ha : X a) (h46 : a ≠ 46) : NhE X σ (τ.wi a j v) := by
  obtain ⟨h1, h2, h3⟩ := h
  refine ⟨⟨h1.1, h1.2.1, fun b hb q => ⟨(funext fun k => wi_ne (fun z => q (Or.inr (by rw [z.1]; exact ha)))).trans (h1.2.2 b hb q).1, (h1.2.2 b hb q).2⟩⟩, h2, ?_⟩
  have : sdN (τ.wi a j v) = sdN τ := sdN_g (funext fun k => wi_ne (fun z => h46 z.1.symm))
  unfold SzH at h3 ⊢
  rw [this]
  exact h3
theorem NhE.row {X : Nat → Prop} (g : NhE X σ τ) (F : FX ΦC σ.sh σ.r) (st : sqA σ = 47 ∨ 102 ≤ sqA σ) {a : Nat} (ha : ((a < 46 ∨ 55 < a) ∧ a ≤ 101) ∧ ¬ X a) : τ.i a = σ.i a ∧ τ.l a = σ.l a := by
  have l100 : 101 < σ.sh.length := (List.getElem?_eq_some_iff.mp (F.s (a := 101) t0_101)).1
  refine g.1.2.2 a (by omega) (fun z => ?_)
  rcases z with z | z
  · unfold neE at z
    omega
  · exact ha.2 z
/-- the rows alone -/
theorem NhE.vw {X : Nat → Prop} (g : NhE X σ τ) (F : FX ΦC σ.sh σ.r) (st : sqA σ = 47 ∨ 102 ≤ sqA σ) : XF (fun a => ((46 ≤ a ∧ a ≤ 55) ∨ 102 ≤ a) ∨ X a) σ (σ.sh, τ.i, τ.l, σ.r) := ⟨rfl, rfl, fun a q => g.row F st ⟨by
  have : ¬ ((46 ≤ a ∧ a ≤ 55) ∨ 102 ≤ a) := fun z => q (Or.inl z)
  omega, fun z => q (Or.inr z)⟩⟩
theorem NhF.vw (g : NhF σ τ) (F : FX ΦC σ.sh σ.r) (st : sqA σ = 47 ∨ 102 ≤ sqA σ) : XF (fun a => (46 ≤ a ∧ a ≤ 55) ∨ 102 ≤ a) σ (σ.sh, τ.i, τ.l, σ.r) := ⟨rfl, rfl, fun a q => g.row F st (by omega)⟩
theorem QwS.he {X : Nat → Prop} (h : QwS C W wy a0 σ) (st : sqA σ = 47 ∨ 102 ≤ sqA σ) (g : NhE X σ τ) (hX : ∀ a, X a → 46 ≤ a ∧ a ≤ 101) : QwS C W wy a0 τ := by
  have l100 : 101 < σ.sh.length := (List.getElem?_eq_some_iff.mp (h.1.1.s (a := 101) t0_101)).1
  have y := h.1.2.2.2.2.2.2
  have gi : ∀ a, a < 46 → τ.i a = σ.i a ∧ τ.l a = σ.l a := fun a q => g.row h.1.1 st ⟨by omega, fun z => by have := hX a z; omega⟩
  refine ⟨h.1.gn g.1 (fun a q => ?_) (fun a q => ⟨(h.2.2.2.2.2.2 a q).1, fun z => ?_⟩), h.2.1.keep (fun k _ => ⟨by rw [(gi 32 (by omega)).1], by rw [(gi 33 (by omega)).1]⟩), ⟨by rw [(gi 1 (by omega)).1]; exact h.2.2.1.1, h.2.2.1.2⟩, h.2.2.2.1.keep (by rw [(gi 1 (by omega)).1]) (fun j => by rw [(gi 38 (by omega)).1]) (fun b j _ _ => by rw [(gi b (by omega)).2]), h.2.2.2.2.1, h.2.2.2.2.2.1, fun a q => ?_⟩
  · rcases q with q | q
    · unfold neE at q
      omega
    · exact (hX a q).1
  · have := (h.2.2.2.2.2.2 a q).2
    rcases z with z | z
    · unfold neE at z
      omega
    · have := hX a z
      omega
  · have := h.2.2.2.2.2.2 a q
    have hl := g.1.len
    have := g.2.1
    omega
theorem KaS.he {X : Nat → Prop} (h : KaS W kA pl k σ) (st : sqA σ = 47 ∨ 102 ≤ sqA σ) (g : NhE X σ τ) (ha : ((kA < 46 ∨ 55 < kA) ∧ kA ≤ 101) ∧ ¬ X kA) : KaS W kA pl k τ := h.gn g.1 (fun z => by
  rcases z with z | z
  · unfold neE at z
    omega
  · exact ha.2 z)
theorem XF.up {E : Nat → Prop} (h : XF E σ τ) (g : ∀ a, E a → 46 ≤ a ∧ a ≤ 101) : XF (fun a => 46 ≤ a ∧ a ≤ 101) σ τ := h.mono g
theorem akI_xx {pl : Nat} {bl : Nat → Nat → Bool} {X : List Spc × Ast} : akI pl bl k X X = 0 := if_pos rfl
theorem akI_sw {pl : Nat} {bl : Nat → Nat → Bool} {X Y : List Spc × Ast} : akI pl bl k Y X = - akI pl bl k X Y := by
  unfold akI
  cases pD (alP pl bl k X Y) <;> cases pD (alP pl bl k Y X) <;> rfl
theorem nr_rk (W : Wld) (wy m n : Nat) (k : Nat → Nat) : nrI W wy m n k = rkI W wy (plW W.2.1 (mcW W.2.2.2 m)) m n k := by
  unfold nrI
  by_cases e : m = n
  · rw [if_pos e]
    subst e
    have f0 : fdO W.2.2.2 (plW W.2.1 (mcW W.2.2.2 m)) m m = none := by
      unfold fdO
      rw [List.find?_eq_none]
      intro i _
      simp
    unfold rkI
    rw [f0]
    exact akI_xx.symm
  · rw [if_neg e]
theorem kd_at (h : SkR C W a0 σ) (hx : W.2.2.2[j]? = some x) {p : Nat} (hp : p < 3) : σ.i 15 (3 * (j + 1) + p) = Int32.ofNat (kdW W.2.2.2 (j + 1) p) ∧ kdW W.2.2.2 (j + 1) p < 24 ∧ (p < plW W.2.1 x.1.1.toNat → kdW W.2.2.2 (j + 1) p < W.1.length) := by
  obtain ⟨hj, mt, wf⟩ := h.at hx
  obtain ⟨c1, -⟩ := mt.2.2.2.1 p hp
  have l24 := h.2.1.2.1
  have l1 := h.2.2.2.2.2.1.1
  have pp := h.plx hx
  have e : kdW W.2.2.2 (j + 1) p = (x.1.2.2.2.1.getD p (0, false, 0)).1.toNat := by
    unfold kdW
    rw [Nat.add_sub_cancel, hx]
  have w6 : ∀ s ∈ x.1.2.2.2.1, (0 ≤ s.1 ∧ s.1 < (W.1.length : Int)) ∧ (-2147483647 ≤ s.2.2 ∧ s.2.2 ≤ 2147483647) := by
    obtain ⟨k0, w1, w2, w3, w4, w5, w6, -⟩ := wf
    exact w6
  have r : 0 ≤ (x.1.2.2.2.1.getD p (0, false, 0)).1 ∧ (x.1.2.2.2.1.getD p (0, false, 0)).1 < (W.1.length : Int) := by
    rw [List.getD_eq_getElem?_getD]
    cases e : x.1.2.2.2.1[p]? with
    | none => exact ⟨by decide, by show (0 : Int) < _; omega⟩
    | some s => exact (w6 s (List.mem_of_getElem? e)).1
  rw [e]
  refine ⟨?_, by omega, fun _ => by omega⟩
  rw [c1]
  conv => lhs; rw [show (x.1.2.2.2.1.getD p (0, false, 0)).1 = (((x.1.2.2.2.1.getD p (0, false, 0)).1.toNat : Nat) : Int) by omega]
  rfl
theorem cl_sameKd (h : SkR C W a0 σ) (hx : W.2.2.2[j]? = some x) (hx' : W.2.2.2[j']? = some x') (k1 : (∀ p, p < 3 → kdW W.2.2.2 (j + 1) p = kdW W.2.2.2 (j' + 1) p) → K (.inl (some (.int 1))) σ) (k0 : (¬ ∀ p, p < 3 → kdW W.2.2.2 (j + 1) p = kdW W.2.2.2 (j' + 1) p) → K (.inl (some (.int 0))) σ) : C_X5_sameKinds_0 Z (d + 1) σ (Int32.ofNat (j + 1)) (Int32.ofNat (j' + 1)) K := by
  have hj := (h.at hx).1
  have hj' := (h.at hx').1
  have st : ∀ p, p < 3 → (kdW W.2.2.2 (j + 1) p = kdW W.2.2.2 (j' + 1) p → C_X5_sameKinds_2 Z (d + 1) σ (Int32.ofNat (j + 1)) (Int32.ofNat (j' + 1)) (Int32.ofNat (p + 1)) K) → C_X5_sameKinds_2 Z (d + 1) σ (Int32.ofNat (j + 1)) (Int32.ofNat (j' + 1)) (Int32.ofNat p) K := fun p hp kp => by
    obtain ⟨c1, c2, -⟩ := kd_at h hx hp
    obtain ⟨c3, c4, -⟩ := kd_at h hx' hp
    refine T_X5_sameKinds_2 h.1 ?_
    rw [show (3 : Int32) ≤ Int32.ofNat p ↔ 3 ≤ p from oN_le (a := 3) (by decide) (by omega), show (3 : Int32) = Int32.ofNat 3 from rfl, oN_mul, oN_mul, oN_add, oN_add, oN_t (by omega), oN_t (by omega), show (j + 1) * 3 + p = 3 * (j + 1) + p by omega, show (j' + 1) * 3 + p = 3 * (j' + 1) + p by omega, c1, c3, oN_eq (by omega) (by omega), oN_1]
    refine ⟨fun z => absurd z (by omega), fun _ => ⟨ib_oN (by omega) (by decide), ib_oN (by omega) (by decide), kp, fun z => k0 (fun q => z (q p hp))⟩⟩
  refine T_X5_sameKinds_0 h.1 (st 0 (by omega) (fun e0 => st 1 (by omega) (fun e1 => st 2 (by omega) (fun e2 => T_X5_sameKinds_2 h.1 ⟨fun _ => k1 ?_, fun z => absurd (by decide) z⟩))))
  exact (fun p hp => by
    have : p = 0 ∨ p = 1 ∨ p = 2 := by omega
    rcases this with rfl | rfl | rfl
    · exact e0
    · exact e1
    · exact e2)
theorem cl_spot {c y : Nat} (h : SkR C W a0 σ) (hw : w < 3) (hc : c < W.1.length) (hy : y ∈ rwW W.1 1 c) (kk : ∀ i : Nat, i < 25 → plI (rwW W.1 w c) y = (i : Int) → K (.inl (some (.int (Int32.ofNat i)))) σ) : C_X2_spotInRow_0 Z (d + 1) σ (Int32.ofNat w) (Int32.ofNat c) (Int32.ofNat y) K := by
  have l24 := h.2.1.2.1
  obtain ⟨n1, n2, n3, n4⟩ := rw_ok h.2.2.1 hc hw
  have m1 := ((rw_ok h.2.2.1 hc (w := 1) (by decide)).2.2.1 y)
  have my := (n3 y).2.mpr (m1.2.mp hy)
  have yc := m1.1 hy
  obtain ⟨i, hi⟩ := List.mem_iff_getElem?.mp my
  have il := (List.getElem?_eq_some_iff.mp hi).1
  have sp := ((rw_at h.2.2.1 hc hw).2.1 i y hi).2
  refine T_X2_spotInRow_0 h.1 ?_
  rw [show (24 : Int32) = Int32.ofNat 24 from rfl, oN_mul, oN_add, oN_mul, oN_add, oN_t (by omega), sp]
  refine ⟨ib_oN (by omega) (by decide), kk i (by omega) (plI_some hi (fun j' hj' e => ?_))⟩
  have := (List.getElem?_inj (by omega) n1).mp (e.trans hi.symm)
  omega
theorem sb_t {a b : Nat} (ha : a < 1000) (hb : b < 1000) : (Int32.ofNat a - Int32.ofNat b).toInt = (a : Int) - b := by
  rw [Int32.toInt_sub, oN_i (by omega), oN_i (by omega), Int.bmod_def]
  omega
theorem fdO_some {ms : List (Mtd × Bool)} {pl m n f : Nat} (h : fdO ms pl m n = some f) : f < pl ∧ kdW ms m f ≠ kdW ms n f ∧ ∀ i, i < f → kdW ms m i = kdW ms n i := by
  unfold fdO at h
  obtain ⟨h1, as, bs, h2, h3⟩ := List.find?_eq_some_iff_append.mp h
  have h1 := of_decide_eq_true h1
  have hl : as.length + (bs.length + 1) = pl := by
    have := congrArg List.length h2
    rw [List.length_range, List.length_append, List.length_cons] at this
    exact this.symm
  have hf : as.length = f := by
    have : (List.range pl)[as.length]? = some f := by
      rw [h2, List.getElem?_append_right (Nat.le_refl _), Nat.sub_self]
      rfl
    rw [List.getElem?_range (by omega)] at this
    exact Option.some.inj this
  refine ⟨by omega, h1, fun i hi => ?_⟩
  have hm : i ∈ as := by
    have : (List.range pl)[i]? = as[i]? := by
      rw [h2, List.getElem?_append_left (by omega)]
    rw [List.getElem?_range (by omega)] at this
    exact List.mem_of_getElem? this.symm
  have := h3 i hm
  simpa using this
/-- the loop over places -/
theorem cm_48 {f : Nat} (h : QwS C W wy a0 σ) (hx : W.2.2.2[j]? = some x) (hx' : W.2.2.2[j']? = some x') (hc : x.1.1 = x'.1.1) (hpl : plW W.2.1 x.1.1.toNat = pl) (ka : KaS W kA pl k σ) (f1 : ∀ p, p < pl → kdW W.2.2.2 (j + 1) p ∈ rwW W.1 1 (k p)) (f2 : ∀ p, p < pl → kdW W.2.2.2 (j' + 1) p ∈ rwW W.1 1 (k p)) (hf : fdO W.2.2.2 pl (j + 1) (j' + 1) = some f) (kk : K (.inl (some (.int (Int32.ofInt (rkI W wy pl (j + 1) (j' + 1) k))))) σ) : ∀ (n p : Nat) (l6 l7 l8 : Int32), p + n = pl → l6 = (if (∀ i, i < p → blW W.1 (kdW W.2.2.2 (j + 1) i) (kdW W.2.2.2 (j' + 1) i) = true) then 1 else 0) → l7 = (if (∀ i, i < p → blW W.1 (kdW W.2.2.2 (j' + 1) i) (kdW W.2.2.2 (j + 1) i) = true) then 1 else 0) → l8.toInt = smI W wy k (j + 1) p - smI W wy k (j' + 1) p ∧ (-30 * (p : Int) ≤ l8.toInt ∧ l8.toInt ≤ 30 * p) → (wyW W.2.1 x.1.1.toNat = 0 → p ≤ f) → C_X6_compare_64 Z (d + 2) σ (Int32.ofNat (j + 1)) (Int32.ofNat (j' + 1)) kA (Int32.ofNat x.1.1.toNat) l6 l7 l8 (Int32.ofNat p) K := by
  have hs := h.1
  have hj := (hs.at hx).1
  have hj' := (hs.at hx').1
  have pp := hs.plx hx
  rw [hpl] at pp
  have pp' := hs.plx hx'
  rw [← hc, hpl] at pp'
  have cl := pp.2.2.2.1
  have c24 := hs.2.2.2.1.1
  have cx := List.getElem?_eq_getElem cl
  obtain ⟨-, w33⟩ := h.2.1 _ _ cx
  obtain ⟨p31, -⟩ := hs.2.2.2.1.2 _ _ cx
  have ep : (W.2.1[x.1.1.toNat]).2.1 = pl := by
    rw [← hpl]
    unfold plW
    rw [cx]
    rfl
  have ew : (W.2.1[x.1.1.toNat]).2.2.2 = wyW W.2.1 x.1.1.toNat := by
    unfold wyW
    rw [cx]
    rfl
  rw [ep] at p31
  rw [ew] at w33
  have w3 : wyW W.2.1 x.1.1.toNat < 3 := by
    have := h.2.2.2.2.1 _ (List.mem_of_getElem? cx)
    rw [← ew]
    omega
  obtain ⟨g1, g2, g3⟩ := fdO_some hf
  have em : mcW W.2.2.2 (j + 1) = x.1.1.toNat := (spM_at hx).2.2
  have er : rkI W wy pl (j + 1) (j' + 1) k = if wyW W.2.1 x.1.1.toNat = 0 then (if plI (rwW W.1 wy (k f)) (kdW W.2.2.2 (j + 1) f) < plI (rwW W.1 wy (k f)) (kdW W.2.2.2 (j' + 1) f) then -1 else 1)
    else if wyW W.2.1 x.1.1.toNat = 1 then (if ((List.range pl).all fun i => blW W.1 (kdW W.2.2.2 (j + 1) i) (kdW W.2.2.2 (j' + 1) i)) = true then -1 else if ((List.range pl).all fun i => blW W.1 (kdW W.2.2.2 (j' + 1) i) (kdW W.2.2.2 (j + 1) i)) = true then 1 else 0)
    else sg3 (smI W wy k (j + 1) pl - smI W wy k (j' + 1) pl) := by
    unfold rkI
    rw [hf, em]
  have al : ∀ g : Nat → Bool, ((List.range pl).all g) = true ↔ ∀ i, i < pl → g i = true := fun g => by
    rw [List.all_eq_true]
    exact ⟨fun q i hi => q i (List.mem_range.mpr hi), fun q i hi => q i (List.mem_range.mp hi)⟩
  rw [er] at kk
  intro n
  induction n with
  | zero =>
    intro p l6 l7 l8 hn h6 h7 h8 hw
    have e : p = pl := by omega
    subst e
    refine T_X6_compare_64 hs.1 ?_
    rw [oN_t (by omega), p31, w33, oN_le (by omega) (by omega), show Int32.ofNat (wyW W.2.1 x.1.1.toNat) = 1 ↔ wyW W.2.1 x.1.1.toNat = 1 from oN_eq (b := 1) (by omega) (by decide)]
    refine ⟨ib_oN (by omega) (by decide), fun _ => ⟨ib_oN (by omega) (by decide), fun w1 => ?_, fun w1 => ?_⟩, fun z => absurd (Nat.le_refl _) z⟩
    · have w0 : ¬ wyW W.2.1 x.1.1.toNat = 0 := fun z => by
        have := hw z
        omega
      rw [if_neg w0, if_neg w1] at kk
      rw [← h8.1] at kk
      have kq : ∀ v : Int32, v = Int32.ofInt (sg3 l8.toInt) → K (.inl (some (.int v))) σ := fun v ev => by
        rw [ev]
        exact kk
      refine T_J6_compare_7cf53_0 hs.1 ⟨fun z => ⟨fun z2 => kq 1 ?_, fun z2 => kq 0 ?_⟩, fun z => kq (-1) ?_⟩
      · have z : 0 ≤ l8.toInt := Int32.le_iff_toInt_le.mp z
        have : l8.toInt ≠ 0 := fun q => z2 (Int32.toInt_inj.mp q)
        unfold sg3
        rw [if_neg (by omega), if_neg this]
        rfl
      · subst z2
        rfl
      · have z : ¬ 0 ≤ l8.toInt := fun q => z (Int32.le_iff_toInt_le.mpr q)
        unfold sg3
        rw [if_pos (by omega)]
        rfl
    · rw [if_neg (by omega), if_pos w1] at kk
      have kq : ∀ v : Int32, v = Int32.ofInt (if ((List.range p).all fun i => blW W.1 (kdW W.2.2.2 (j + 1) i) (kdW W.2.2.2 (j' + 1) i)) = true then -1 else if ((List.range p).all fun i => blW W.1 (kdW W.2.2.2 (j' + 1) i) (kdW W.2.2.2 (j + 1) i)) = true then 1 else 0) → K (.inl (some (.int v))) σ := fun v ev => by
        rw [ev]
        exact kk
      refine kq _ ?_
      rw [h6, h7]
      by_cases q1 : ∀ i, i < p → blW W.1 (kdW W.2.2.2 (j + 1) i) (kdW W.2.2.2 (j' + 1) i) = true
      · rw [if_pos q1, if_pos ((al _).mpr q1)]
        rw [if_neg]
        · rfl
        · intro q2
          have b1 := of_decide_eq_true (q1 f g1)
          have b2 := of_decide_eq_true (q2 f g1)
          have l1 := (kd_at hs hx (p := f) (by omega)).2.2 (by rw [hpl]; exact g1)
          have l2 := (kd_at hs hx' (p := f) (by omega)).2.2 (by rw [← hc, hpl]; exact g1)
          have o1 := ((rw_ok hs.2.2.1 l1 (w := 1) (by decide)).2.2.1 _).1 b1
          have o2 := ((rw_ok hs.2.2.1 l2 (w := 1) (by decide)).2.2.1 _).1 b2
          exact g2 (by omega)
      · rw [if_neg q1, if_neg (fun z => q1 ((al _).mp z))]
        by_cases q2 : ∀ i, i < p → blW W.1 (kdW W.2.2.2 (j' + 1) i) (kdW W.2.2.2 (j + 1) i) = true
        · rw [if_pos q2, if_pos ((al _).mpr q2)]
          rfl
        · rw [if_neg q2, if_neg (fun z => q2 ((al _).mp z))]
          rfl
  | succ n ih =>
    intro p l6 l7 l8 hn h6 h7 h8 hw
    have hp : p < pl := by omega
    obtain ⟨⟨nn, n3, hsh⟩, hkk⟩ := ka
    obtain ⟨kp, kl⟩ := hkk p hp
    obtain ⟨c1, c2, c2'⟩ := kd_at hs hx (p := p) (by omega)
    obtain ⟨c3, c4, c4'⟩ := kd_at hs hx' (p := p) (by omega)
    have c2' := c2' (by rw [hpl]; exact hp)
    have c4' := c4' (by rw [← hc, hpl]; exact hp)
    refine T_X6_compare_64 hs.1 ?_
    rw [oN_t (by omega), p31, oN_le (by omega) (by omega), show (3 : Int32) = Int32.ofNat 3 from rfl, oN_mul, oN_mul, oN_add, oN_add, oN_t (by omega), oN_t (by omega), oN_t (by omega), show (j + 1) * 3 + p = 3 * (j + 1) + p by omega, show (j' + 1) * 3 + p = 3 * (j' + 1) + p by omega, c1, c3, h.2.2.1.1, kp]
    refine ⟨ib_oN (by omega) (by decide), fun z => absurd z (by omega), fun _ => ⟨ib_oN (by omega) (by decide), ib_oN (by omega) (by decide), nn, hsh, ib_i (by rw [oN_i (by omega)]; omega) (by rw [oN_i (by omega)]; omega), ?_⟩⟩
    refine cl_spot hs h.2.2.1.2 kl (f1 p hp) (fun i1 hi1 e1 => ?_)
    refine ⟨nn, hsh, ib_i (by rw [oN_i (by omega)]; omega) (by rw [oN_i (by omega)]; omega), ?_⟩
    rw [h.2.2.1.1, kp]
    refine cl_spot hs h.2.2.1.2 kl (f2 p hp) (fun i2 hi2 e2 => ?_)
    have sb := sb_t (a := i1) (b := i2) (by omega) (by omega)
    have s0 : Int32.ofNat i1 - Int32.ofNat i2 = 0 ↔ i1 = i2 := by
      rw [← Int32.toInt_inj, sb]
      show _ = (0 : Int) ↔ _
      omega
    have sn : 0 ≤ Int32.ofNat i1 - Int32.ofNat i2 ↔ i2 ≤ i1 := by
      rw [Int32.le_iff_toInt_le, sb]
      show (0 : Int) ≤ _ ↔ _
      omega
    have go : (wyW W.2.1 x.1.1.toNat = 0 → i1 = i2) → C_X6_compare_185 Z (d + 2) σ (Int32.ofNat (j + 1)) (Int32.ofNat (j' + 1)) kA (Int32.ofNat x.1.1.toNat) l6 l7 l8 (Int32.ofNat p) (Int32.ofNat (kdW W.2.2.2 (j + 1) p)) (Int32.ofNat (kdW W.2.2.2 (j' + 1) p)) (Int32.ofNat i1 - Int32.ofNat i2) K := fun hw0 => by
      have nx : ∀ l6' l7' : Int32, l6' = (if (∀ i, i < p + 1 → blW W.1 (kdW W.2.2.2 (j + 1) i) (kdW W.2.2.2 (j' + 1) i) = true) then 1 else 0) → l7' = (if (∀ i, i < p + 1 → blW W.1 (kdW W.2.2.2 (j' + 1) i) (kdW W.2.2.2 (j + 1) i) = true) then 1 else 0) → C_X6_compare_64 Z (d + 2) σ (Int32.ofNat (j + 1)) (Int32.ofNat (j' + 1)) kA (Int32.ofNat x.1.1.toNat) l6' l7' (l8 + (Int32.ofNat i1 - Int32.ofNat i2)) (Int32.ofNat (p + 1)) K := fun l6' l7' e6 e7 => by
        have ad : (l8 + (Int32.ofNat i1 - Int32.ofNat i2)).toInt = l8.toInt + ((i1 : Int) - i2) := by
          rw [Int32.toInt_add, sb, Int.bmod_def]
          omega
        refine ih (p + 1) l6' l7' _ (by omega) e6 e7 ⟨?_, by omega, by omega⟩ (fun z => ?_)
        · rw [ad, h8.1]
          show _ = smI W wy k (j + 1) p + plI (rwW W.1 wy (k p)) (kdW W.2.2.2 (j + 1) p) - (smI W wy k (j' + 1) p + plI (rwW W.1 wy (k p)) (kdW W.2.2.2 (j' + 1) p))
          rw [e1, e2]
          omega
        · have le := hw z
          have : p ≠ f := fun q => by
            subst q
            have e := hw0 z
            refine g2 ?_
            -- the same spot
            have in1 := ((rw_ok hs.2.2.1 kl h.2.2.1.2).2.2.1 _).2.mpr (((rw_ok hs.2.2.1 kl (w := 1) (by decide)).2.2.1 _).2.mp (f1 p hp))
            have in2 := ((rw_ok hs.2.2.1 kl h.2.2.1.2).2.2.1 _).2.mpr (((rw_ok hs.2.2.1 kl (w := 1) (by decide)).2.2.1 _).2.mp (f2 p hp))
            obtain ⟨a1, ha1⟩ := List.mem_iff_getElem?.mp in1
            obtain ⟨a2, ha2⟩ := List.mem_iff_getElem?.mp in2
            have nd := (rw_ok hs.2.2.1 kl h.2.2.1.2).1
            have la1 := (List.getElem?_eq_some_iff.mp ha1).1
            have la2 := (List.getElem?_eq_some_iff.mp ha2).1
            have d1 := plI_some ha1 (fun j' hj' e => by have := (List.getElem?_inj (by omega) nd).mp (e.trans ha1.symm); omega)
            have d2 := plI_some ha2 (fun j' hj' e => by have := (List.getElem?_inj (by omega) nd).mp (e.trans ha2.symm); omega)
            have : a1 = a2 := by omega
            rw [this, ha2] at ha1
            exact (Option.some.inj ha1).symm
          omega
      have ex : ∀ g : Nat → Bool, (∀ i, i < p + 1 → g i = true) ↔ (∀ i, i < p → g i = true) ∧ g p = true := fun g => ⟨fun q => ⟨fun i hi => q i (by omega), q p (by omega)⟩, fun q i hi => by
        by_cases e : i = p
        · rw [e]
          exact q.2
        · exact q.1 i (by omega)⟩
      have s192 : ∀ l6' : Int32, l6' = (if (∀ i, i < p + 1 → blW W.1 (kdW W.2.2.2 (j + 1) i) (kdW W.2.2.2 (j' + 1) i) = true) then 1 else 0) → C_X6_compare_208 Z (d + 2) σ (Int32.ofNat (j + 1)) (Int32.ofNat (j' + 1)) kA (Int32.ofNat x.1.1.toNat) l7 l8 (Int32.ofNat p) (Int32.ofNat (kdW W.2.2.2 (j + 1) p)) (Int32.ofNat (kdW W.2.2.2 (j' + 1) p)) (Int32.ofNat i1 - Int32.ofNat i2) l6' K := fun l6' e6 => by
        refine T_X6_compare_208 hs.1 ?_
        rw [oN_1]
        refine cl_below hs c4' c2 ?_
        by_cases q : kdW W.2.2.2 (j + 1) p ∈ rwW W.1 1 (kdW W.2.2.2 (j' + 1) p)
        · rw [if_pos q]
          refine ⟨fun z => absurd z (by decide), fun _ => nx l6' l7 e6 ?_⟩
          rw [h7]
          have : (∀ i, i < p + 1 → blW W.1 (kdW W.2.2.2 (j' + 1) i) (kdW W.2.2.2 (j + 1) i) = true) ↔ (∀ i, i < p → blW W.1 (kdW W.2.2.2 (j' + 1) i) (kdW W.2.2.2 (j + 1) i) = true) := (ex _).trans ⟨fun z => z.1, fun z => ⟨z, decide_eq_true q⟩⟩
          by_cases q2 : (∀ i, i < p → blW W.1 (kdW W.2.2.2 (j' + 1) i) (kdW W.2.2.2 (j + 1) i) = true)
          · rw [if_pos q2, if_pos (this.mpr q2)]
          · rw [if_neg q2, if_neg (fun z => q2 (this.mp z))]
        · rw [if_neg q]
          refine ⟨fun _ => nx l6' 0 e6 ?_, fun z => absurd rfl z⟩
          rw [if_neg (fun z => q (of_decide_eq_true ((ex _).mp z).2))]
      refine T_X6_compare_185 hs.1 (cl_below hs c2' c4 ?_)
      by_cases q : kdW W.2.2.2 (j' + 1) p ∈ rwW W.1 1 (kdW W.2.2.2 (j + 1) p)
      · rw [if_pos q]
        refine ⟨fun z => absurd z (by decide), fun _ => s192 l6 ?_⟩
        rw [h6]
        have : (∀ i, i < p + 1 → blW W.1 (kdW W.2.2.2 (j + 1) i) (kdW W.2.2.2 (j' + 1) i) = true) ↔ (∀ i, i < p → blW W.1 (kdW W.2.2.2 (j + 1) i) (kdW W.2.2.2 (j' + 1) i) = true) := (ex _).trans ⟨fun z => z.1, fun z => ⟨z, decide_eq_true q⟩⟩
        by_cases q2 : (∀ i, i < p → blW W.1 (kdW W.2.2.2 (j + 1) i) (kdW W.2.2.2 (j' + 1) i) = true)
        · rw [if_pos q2, if_pos (this.mpr q2)]
        · rw [if_neg q2, if_neg (fun z => q2 (this.mp z))]
      · rw [if_neg q]
        refine ⟨fun _ => s192 0 ?_, fun z => absurd rfl z⟩
        rw [if_neg (fun z => q (of_decide_eq_true ((ex _).mp z).2))]
    refine ⟨ib_oN (by omega) (by decide), ?_⟩
    rw [w33, show Int32.ofNat (wyW W.2.1 x.1.1.toNat) = 0 ↔ wyW W.2.1 x.1.1.toNat = 0 from oN_eq (b := 0) (by omega) (by decide), s0, sn]
    refine ⟨fun z => go (fun q => absurd q z), fun z => ⟨fun e => go (fun _ => e), fun ne => ?_⟩⟩
    -- the first that differs
    have pf : p = f := by
      have le := hw z
      refine Classical.byContradiction fun q => ?_
      have e := g3 p (by omega)
      rw [e] at e1
      omega
    subst pf
    rw [if_pos z, e1, e2] at kk
    refine ⟨fun q => ?_, fun q => ?_⟩
    · rw [if_neg (by omega)] at kk
      exact kk
    · rw [if_pos (by omega)] at kk
      exact kk
/-- which of two is nearer -/
theorem cl_compare (h : QwS C W wy a0 σ) (ne : NeS W σ) (ka : KaS W kA pl k σ) (hk : (kA < 46 ∨ 55 < kA) ∧ kA ≤ 101) (hx : W.2.2.2[j]? = some x) (hx' : W.2.2.2[j']? = some x') (hg : x.2 = false) (hc : x.1.1 = x'.1.1) (hpl : plW W.2.1 x.1.1.toNat = pl) (f1 : ∀ p, p < pl → kdW W.2.2.2 (j + 1) p ∈ rwW W.1 1 (k p)) (f2 : ∀ p, p < pl → kdW W.2.2.2 (j' + 1) p ∈ rwW W.1 1 (k p)) (kk : ∀ τ, NhF σ τ → NeS W τ → K (.inl (some (.int (Int32.ofInt (nrI W wy (j + 1) (j' + 1) k))))) τ) : C_X6_compare_0 Z (d + 4) σ (Int32.ofNat (j + 1)) (Int32.ofNat (j' + 1)) kA K := by
  have hs := h.1
  have hj := (hs.at hx).1
  have pp := hs.plx hx
  have pp' := hs.plx hx'
  rw [← hc] at pp'
  have er := nr_rk W wy (j + 1) (j' + 1) k
  rw [(spM_at hx).2.2, hpl] at er
  refine T_X6_compare_0 hs.1 ?_
  cases hf : fdO W.2.2.2 pl (j + 1) (j' + 1) with
  | none =>
    have eq : ∀ p, p < 3 → kdW W.2.2.2 (j + 1) p = kdW W.2.2.2 (j' + 1) p := fun p hp => by
      by_cases q : p < pl
      · unfold fdO at hf
        rw [List.find?_eq_none] at hf
        have := hf p (List.mem_range.mpr q)
        simpa using this
      · unfold kdW
        rw [Nat.add_sub_cancel, Nat.add_sub_cancel, hx, hx']
        dsimp only
        rw [List.getD_eq_getElem?_getD, List.getD_eq_getElem?_getD, List.getElem?_eq_none (by omega), List.getElem?_eq_none (by omega)]
    refine cl_sameKd hs hx hx' (fun _ => ?_) (fun z => absurd eq z)
    have e : nrI W wy (j + 1) (j' + 1) k = akN W (j + 1) (j' + 1) k := by
      rw [er]
      unfold rkI akN
      rw [hf, (spM_at hx).2.2, hpl]
    have e' : nrI W wy (j + 1) (j' + 1) k = - akN W (j' + 1) (j + 1) k := by
      rw [e]
      unfold akN
      rw [(spM_at hx).2.2, (spM_at hx').2.2, hc, akI_sw]
    refine ⟨fun z => absurd z (by decide), fun _ => ⟨fun _ => cl_whoAsks hs h.2.2.2.2.2.2 ne ka hk hx' hx hc.symm (by rw [← hc]; exact hpl) (fun τ g n' => ?_), fun _ => cl_whoAsks hs h.2.2.2.2.2.2 ne ka hk hx hx' hc hpl (fun τ g n' => ?_)⟩⟩
    · have := kk τ g n'
      rw [e'] at this
      have rr := akN_r W (j' + 1) (j + 1) k
      show K (.inl (some (.int (-(Int32.ofInt (akN W (j' + 1) (j + 1) k)))))) τ
      have q : -(Int32.ofInt (akN W (j' + 1) (j + 1) k)) = Int32.ofInt (-(akN W (j' + 1) (j + 1) k)) := by
        generalize akN W (j' + 1) (j + 1) k = r at rr ⊢
        have : r = -1 ∨ r = 0 ∨ r = 1 := by omega
        rcases this with rfl | rfl | rfl <;> decide
      rw [q]
      exact this
    · have := kk τ g n'
      rw [e] at this
      exact this
  | some f =>
    obtain ⟨g1, g2, g3⟩ := fdO_some hf
    rw [hpl] at pp
    refine cl_sameKd hs hx hx' (fun z => absurd (z f (by omega)) g2) (fun _ => ?_)
    have e11 : σ.i 11 (j + 1) = Int32.ofNat x.1.1.toNat := by
      obtain ⟨-, mt, wf⟩ := hs.at hx
      obtain ⟨k0, w1, -⟩ := wf
      have := mt.1
      rw [hg, if_neg (by decide)] at this
      rw [this, w1, Int.toNat_natCast]
      rfl
    refine ⟨fun _ => ?_, fun z => absurd rfl z⟩
    rw [oN_t (by omega), e11]
    refine ⟨ib_oN (by omega) (by decide), ?_⟩
    refine cm_48 h hx hx' hc hpl ka f1 f2 hf ?_ pl 0 1 1 0 (by omega) ?_ ?_ ⟨by show (0 : Int) = 0 - 0; omega, by decide, by decide⟩ (fun _ => Nat.zero_le _)
    · rw [← er]
      exact kk σ (NhF.refl _) ne
    · rw [if_pos (fun i hi => absurd hi (Nat.not_lt_zero _))]
    · rw [if_pos (fun i hi => absurd hi (Nat.not_lt_zero _))]
end COMP

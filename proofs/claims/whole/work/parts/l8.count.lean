/-! PURE: counting sets by tuples of kinds -/
def orT : List Nat := [0, 1, 2, 0, 2, 1, 1, 0, 2, 1, 2, 0, 2, 0, 1, 2, 1, 0]
def opC (oo n : Nat) : Nat := orT.getD (3 * oo + n) 0
theorem opC_lt {oo n : Nat} : opC oo n < 3 := by
  have : ∀ x ∈ orT, x < 3 := by decide
  unfold opC
  rw [List.getD_eq_getElem?_getD]
  cases e : orT[3 * oo + n]? with
  | none => decide
  | some y => exact this y (List.mem_of_getElem? e)
theorem xJ_3 {i : Nat} (h : i < 18) : xJ0 3 (Int32.ofNat i) (Int32.ofNat (orT.getD i 0)) := by
  unfold xJ0
  have : i = 0 ∨ i = 1 ∨ i = 2 ∨ i = 3 ∨ i = 4 ∨ i = 5 ∨ i = 6 ∨ i = 7 ∨ i = 8 ∨ i = 9 ∨ i = 10 ∨ i = 11 ∨ i = 12 ∨ i = 13 ∨ i = 14 ∨ i = 15 ∨ i = 16 ∨ i = 17 := by omega
  rcases this with rfl | rfl | rfl | rfl | rfl | rfl | rfl | rfl | rfl | rfl | rfl | rfl | rfl | rfl | rfl | rfl | rfl | rfl <;> rfl
/-- the set behind n places of an order -/
def sZ (W : Wld) (c oo : Nat) (t : Nat → Nat) (n m : Nat) : Bool := lvZ W c (plW W.2.1 c) m && (List.range n).all fun i => fiZ W (opC oo i) (t i) m
def tupM (W : Wld) (t : Nat × Nat × Nat) (n : Nat) : Nat := (mkW W.1).getD (if n = 0 then t.1 else if n = 1 then t.2.1 else t.2.2) 0
def cdZ (W : Wld) (c oo as' : Nat) (t : Nat → Nat) : Bool := decide (as' = plW W.2.1 c) || mtZ W (opC oo as') (sZ W c oo t as')
def nZ (W : Wld) (as' n : Nat) : Nat := if as' ≤ n then 1 else (mkW W.1).length
def tiL (a b c : Nat) : List (Nat × Nat × Nat) := (List.range a).flatMap fun i => (List.range b).flatMap fun j => (List.range c).map fun k => (i, j, k)
noncomputable def cnZ (W : Wld) (c oo as' : Nat) : Nat := dsN (((tiL (nZ W as' 0) (nZ W as' 1) (nZ W as' 2)).filter fun t => cdZ W c oo as' (tupM W t)).map fun t => seL (sZ W c oo (tupM W t) as'))
theorem tiL_mem {a b c : Nat} {t : Nat × Nat × Nat} : t ∈ tiL a b c ↔ t.1 < a ∧ t.2.1 < b ∧ t.2.2 < c := by
  unfold tiL
  rw [List.mem_flatMap]
  constructor
  · rintro ⟨i, hi, h⟩
    obtain ⟨j, hj, h⟩ := List.mem_flatMap.mp h
    obtain ⟨k, hk, rfl⟩ := List.mem_map.mp h
    exact ⟨List.mem_range.mp hi, List.mem_range.mp hj, List.mem_range.mp hk⟩
  · rintro ⟨h1, h2, h3⟩
    exact ⟨t.1, List.mem_range.mpr h1, List.mem_flatMap.mpr ⟨t.2.1, List.mem_range.mpr h2, List.mem_map.mpr ⟨t.2.2, List.mem_range.mpr h3, rfl⟩⟩⟩
theorem flm_le {α : Type} {f : Nat → List α} {b : Nat} (h : ∀ x, (f x).length ≤ b) : ∀ n, ((List.range n).flatMap f).length ≤ n * b
  | 0 => Nat.zero_le _
  | n + 1 => by
    have ih := flm_le h n
    have := h n
    rw [List.range_succ, List.flatMap_append, List.length_append, Nat.succ_mul, List.flatMap_cons, List.flatMap_nil, List.append_nil]
    omega
/-! THE CLASS: counting sets -/
section CNT
variable {Z : zT} {d A u : Nat} {σ σ0 τ υ : Sg} {K : kS} {C : Nat × Nat × Nat × Nat} {V V0 V' V2 : Nat × Nat × Nat × Nat} {W : Wld} {wy a0 j j' kA pl w c oo as' : Nat} {k k' : Nat → Nat} {S : List (Int64 × Int64)}
def pcT (σ : Sg) (c oo : Nat) (t : Nat → Nat) : Nat → Int64 × Int64
  | 0 => lpC σ c
  | n + 1 => anP (pcT σ c oo t n) (fpC σ (opC oo n) (t n))
theorem pb_pc (h : QwS C W wy a0 σ) (hl : LvS W c σ) {t : Nat → Nat} : ∀ n, (∀ i, i < n → t i < W.1.length) → ∀ m, 1 ≤ m → m ≤ 128 → pb (pcT σ c oo t n) m = sZ W c oo t n m
  | 0, _, m, m1, m2 => by
    show pb (lpC σ c) m = _
    rw [hl.1 m m1 m2]
    unfold sZ
    rw [List.range_zero, List.all_nil, Bool.and_true]
  | n + 1, ht, m, m1, m2 => by
    show pb (anP (pcT σ c oo t n) (fpC σ (opC oo n) (t n))) m = _
    rw [pb_an, pb_pc h hl n (fun i hi => ht i (by omega)) m m1 m2, pb_fp h opC_lt (ht n (by omega)) m1 m2]
    unfold sZ
    rw [List.range_succ, List.all_append, Bool.and_assoc]
    simp
theorem pc_cg (h36 : τ.l 36 = σ.l 36) (h37 : τ.l 37 = σ.l 37) (h58 : τ.l 58 = σ.l 58) (h59 : τ.l 59 = σ.l 59) {t : Nat → Nat} : ∀ n, pcT τ c oo t n = pcT σ c oo t n
  | 0 => by
    show (τ.l 58 c, τ.l 59 c) = (σ.l 58 c, σ.l 59 c)
    rw [h58, h59]
  | n + 1 => by
    show anP (pcT τ c oo t n) (τ.l 36 _, τ.l 37 _) = anP (pcT σ c oo t n) (σ.l 36 _, σ.l 37 _)
    rw [pc_cg h36 h37 h58 h59 n, h36, h37]
/-- rows that counting leaves -/
theorem LsF.row (A : SeA σ V) (F : FX ΦC σ.sh σ.r) (g : LsF V V' σ τ) {a : Nat} (ha : a < 64) (h6 : a ≠ 56) : τ.i a = σ.i a ∧ τ.l a = σ.l a := by
  have l100 : 101 < σ.sh.length := (List.getElem?_eq_some_iff.mp (F.s (a := 101) t0_101)).1
  refine g.1.2.2 a (by omega) (fun z => ?_)
  obtain ⟨-, -, -, -, h1, h2, h3, -⟩ := A
  unfold seE at z
  omega
/-- while sets of call c are counted -/
def CnS (C V0 : Nat × Nat × Nat × Nat) (W : Wld) (wy a0 c u : Nat) (σ0 : Sg) (V : Nat × Nat × Nat × Nat) (S : List (Int64 × Int64)) (τ : Sg) : Prop := QwS C W wy a0 τ ∧ CvN C V τ ∧ SetC τ V u S ∧ LsF V0 V σ0 τ ∧ LvS W c τ ∧ (τ.l 36 = σ0.l 36 ∧ τ.l 37 = σ0.l 37 ∧ τ.l 58 = σ0.l 58 ∧ τ.l 59 = σ0.l 59)
theorem LvS.keep {σ τ : Sg} (h : LvS W c σ) (h58 : τ.l 58 = σ.l 58) (h59 : τ.l 59 = σ.l 59) (h60 : τ.l 60 = σ.l 60) (h61 : τ.l 61 = σ.l 61) : LvS W c τ := by
  unfold LvS lpC apC at *
  rw [h58, h59, h60, h61]
  exact h
theorem CnS.ls {S' : List (Int64 × Int64)} (h : CnS C V0 W wy a0 c u σ0 V S σ) (g : LsF V V' σ τ) (hs : SetC τ V' u S') : CnS C V0 W wy a0 c u σ0 V' S' τ := by
  obtain ⟨h1, h2, h3, h4, h5, e1, e2, e3, e4⟩ := h
  have r := fun a (ha : a < 64) (h6 : a ≠ 56) => (LsF.row h3.1 h1.1.1 g ha h6).2
  exact ⟨h1.ls h3.1 h2 g, h2.ls g, hs, h4.tr g, h5.keep (r 58 (by omega) (by omega)) (r 59 (by omega) (by omega)) (r 60 (by omega) (by omega)) (r 61 (by omega) (by omega)), (r 36 (by omega) (by omega)).trans e1, (r 37 (by omega) (by omega)).trans e2, (r 58 (by omega) (by omega)).trans e3, (r 59 (by omega) (by omega)).trans e4⟩
/-- one set more -/
theorem cs_add {x : Int64 × Int64} (H : CnS C V0 W wy a0 c u σ0 V S σ) (hu : 1 ≤ u) (hS : S.length ≤ 16383) (kk : ∀ τ V' S', CnS C V0 W wy a0 c u σ0 V' S' τ → (∀ y, y ∈ S' ↔ y ∈ S ∨ y = x) → K (.inl none) τ) : C_X3_makeRoomInSet_0 Z (d + 2) σ (yN K fun τ => C_X3_addToSet_0 Z (d + 2) τ x.1 x.2 (yN K fun τ' => K (.inl none) τ')) := by
  refine cl_makeRoom H.1.1.1 H.2.2.1 hu hS (fun τ V1 g1 g2 g3 g4 s1 s2 => ?_)
  have l1 : LsF V V1 σ τ := ⟨g1, fun k _ _ => by rw [g2], g3, by rcases g4 with e | e; left; rw [e]; right; exact e.1, by rcases g4 with e | e; left; rw [e]; right; exact e.2.1, by rcases g4 with e | e; left; rw [e]; right; exact e.2.2⟩
  have H1 := H.ls l1 s1
  refine cl_addToSet H1.1.1.1 s1 hu s2 (fun τ2 g5 g6 s3 => ?_)
  refine kk τ2 V1 _ (H1.ls (g5.ls g6) s3) (fun y => ?_)
  by_cases q : x ∈ S
  · rw [if_pos (pD_iff.mpr q)]
    exact ⟨Or.inl, fun z => z.elim id (fun z => by rw [z]; exact q)⟩
  · rw [if_neg (fun z => q (pD_iff.mp z)), List.mem_cons]
    exact ⟨fun z => z.symm, fun z => z.symm⟩
theorem tup_lt (h : QwS C W wy a0 σ) {t : Nat × Nat × Nat} {n : Nat} (h1 : t.1 < nZ W n 0) (h2 : t.2.1 < nZ W n 1) (h3 : t.2.2 < nZ W n 2) (hn : n ≤ 3) : ∀ i, i < n → (if i = 0 then t.1 else if i = 1 then t.2.1 else t.2.2) < (mkW W.1).length ∧ tupM W t i < W.1.length := fun i hi => by
  have a : (if i = 0 then t.1 else if i = 1 then t.2.1 else t.2.2) < (mkW W.1).length := by
    unfold nZ at h1 h2 h3
    have : i = 0 ∨ i = 1 ∨ i = 2 := by omega
    rcases this with rfl | rfl | rfl
    · rw [if_neg (by omega)] at h1
      exact h1
    · rw [if_neg (by omega)] at h2
      exact h2
    · rw [if_neg (by omega)] at h3
      exact h3
  refine ⟨a, ?_⟩
  obtain ⟨y, y1, y2, -⟩ := h.mk a
  unfold tupM
  rw [List.getD_eq_getElem?_getD, y1]
  exact y2
/-- one tuple: its set, and whether it counts -/
theorem cs_106 {l4 l5 l6 : Int32} {t : Nat × Nat × Nat} (hc : c < W.2.1.length) (hoo : oo < 6) (ho : ∀ n, n < plW W.2.1 c → opC oo n < plW W.2.1 c) (has : as' ≤ plW W.2.1 c) (H : CnS C V0 W wy a0 c u σ0 V S σ) (hu : 1 ≤ u) (hS : S.length ≤ 16383) (h1 : t.1 < nZ W as' 0) (h2 : t.2.1 < nZ W as' 1) (h3 : t.2.2 < nZ W as' 2) (hk : t.2.2 < 24) (kk : ∀ τ V' S', CnS C V0 W wy a0 c u σ0 V' S' τ → (∀ y, y ∈ S' ↔ y ∈ S ∨ (cdZ W c oo as' (tupM W t) = true ∧ y = pcT σ0 c oo (tupM W t) as')) → C_X3_countSets_80 Z (d + 3) τ (Int32.ofNat c) (Int32.ofNat (3 * oo)) (Int32.ofNat as') l4 l5 l6 (Int32.ofNat t.1) (Int32.ofNat t.2.1) (Int32.ofNat (t.2.2 + 1)) K) : ∀ r n, n + r = as' → C_X3_countSets_106 Z (d + 3) σ (Int32.ofNat c) (Int32.ofNat (3 * oo)) (Int32.ofNat as') l4 l5 l6 (Int32.ofNat t.1) (Int32.ofNat t.2.1) (Int32.ofNat t.2.2) (pcT σ0 c oo (tupM W t) n).1 (pcT σ0 c oo (tupM W t) n).2 (Int32.ofNat n) K := by
  have Hq := H.1
  obtain ⟨c24, ec, p1, p3⟩ := Hq.cx hc
  obtain ⟨-, -, -, -, hl, e36, e37, e58, e59⟩ := id H
  have tl := tup_lt Hq h1 h2 h3 (by omega)
  intro r
  induction r with
  | zero =>
    intro n hn
    have en : n = as' := by omega
    subst en
    have pbx : ∀ m, 1 ≤ m → m ≤ 128 → pb (pcT σ0 c oo (tupM W t) n) m = sZ W c oo (tupM W t) n m := fun m m1 m2 => by
      rw [← pc_cg e36 e37 e58 e59 n]
      exact pb_pc Hq hl n (fun i hi => (tl i hi).2) m m1 m2
    refine T_X3_countSets_106 Hq.1.1 ?_
    rw [oN_t (by omega), ec, oN_eq (by omega) (by omega), oN_1 t.2.2, oN_add]
    refine ⟨fun _ => ⟨ib_oN c24 (by decide), fun e => ?_, fun e => ⟨Int32.ofNat (opC oo n), xJ_3 (by omega), ?_⟩⟩, fun z => absurd (Int32.le_refl _) z⟩
    · have ct : cdZ W c oo n (tupM W t) = true := by
        unfold cdZ
        rw [decide_eq_true e]
        rfl
      refine cs_add (x := pcT σ0 c oo (tupM W t) n) (K := yN K fun τ' => C_X3_countSets_80 Z (d + 3) τ' (Int32.ofNat c) (Int32.ofNat (3 * oo)) (Int32.ofNat n) l4 l5 l6 (Int32.ofNat t.1) (Int32.ofNat t.2.1) (Int32.ofNat (t.2.2 + 1)) K) H hu hS (fun τ V' S' H' m' => ?_)
      exact kk τ V' S' H' (fun y => (m' y).trans ⟨fun z => z.imp id (fun q => ⟨ct, q⟩), fun z => z.imp id (fun q => q.2)⟩)
    · have ce : cdZ W c oo n (tupM W t) = mtZ W (opC oo n) (sZ W c oo (tupM W t) n) := by
        unfold cdZ
        rw [decide_eq_false e]
        rfl
      refine cl_matters (W := W) (x := pcT σ0 c oo (tupM W t) n) (s := sZ W c oo (tupM W t) n) Hq.1.1 c24 (opC_lt (oo := oo) (n := n)) ?_ pbx ?_
      · -- the place lies before the end only if it is a place of the call
        intro m m1 m2
        exact hl.2 _ (ho n (by omega)) m m1 m2
      · rw [← ce]
        by_cases ct : cdZ W c oo n (tupM W t) = true
        · rw [if_pos ct]
          refine ⟨fun z => absurd z (by decide), fun _ => ?_⟩
          refine cs_add (x := pcT σ0 c oo (tupM W t) n) (K := yN K fun τ' => C_X3_countSets_80 Z (d + 3) τ' (Int32.ofNat c) (Int32.ofNat (3 * oo)) (Int32.ofNat n) l4 l5 l6 (Int32.ofNat t.1) (Int32.ofNat t.2.1) (Int32.ofNat (t.2.2 + 1)) K) H hu hS (fun τ V' S' H' m' => ?_)
          exact kk τ V' S' H' (fun y => (m' y).trans ⟨fun z => z.imp id (fun q => ⟨ct, q⟩), fun z => z.imp id (fun q => q.2)⟩)
        · rw [if_neg ct]
          exact ⟨fun _ => kk σ V S H (fun y => ⟨Or.inl, fun z => z.elim id (fun q => absurd q.1 ct)⟩), fun z => absurd rfl z⟩
  | succ r ih =>
    intro n hn
    have ih := ih (n + 1) (by omega)
    obtain ⟨ix, ty⟩ := tl n (by omega)
    obtain ⟨y, y1, y2, y3, y4⟩ := Hq.mk ix
    have m24 := mk_24 Hq
    have ety : tupM W t n = y := by
      unfold tupM
      rw [List.getD_eq_getElem?_getD, y1]
      rfl
    have ol := opC_lt (oo := oo) (n := n)
    have go : ∀ s, s = (if n = 0 then t.1 else if n = 1 then t.2.1 else t.2.2) → C_X3_countSets_142 Z (d + 3) σ (Int32.ofNat c) (Int32.ofNat (3 * oo)) (Int32.ofNat as') l4 l5 l6 (Int32.ofNat t.1) (Int32.ofNat t.2.1) (Int32.ofNat t.2.2) (pcT σ0 c oo (tupM W t) n).1 (pcT σ0 c oo (tupM W t) n).2 (Int32.ofNat n) (Int32.ofNat s) K := fun s es => by
      rw [← es] at ix y4
      refine T_X3_countSets_142 Hq.1.1 ⟨ib_oN (by omega) (by decide), Int32.ofNat (opC oo n), ?_, ?_⟩
      · rw [oN_add]
        exact xJ_3 (by omega)
      · rw [oN_t (by omega), y4, show (24 : Int32) = Int32.ofNat 24 from rfl, oN_mul, oN_add]
        refine ⟨ib_oN (by show opC oo n * 24 + y < 72; omega) (by decide), Int32.ofNat (opC oo n), ?_, ?_⟩
        · rw [oN_add]
          exact xJ_3 (by omega)
        · rw [oN_mul, oN_add, oN_t (by show opC oo n * 24 + y < _; omega), oN_1 n]
          refine ⟨ib_oN (by show opC oo n * 24 + y < 72; omega) (by decide), ?_⟩
          rw [e36, e37]
          have : pcT σ0 c oo (tupM W t) (n + 1) = ((pcT σ0 c oo (tupM W t) n).1 &&& σ0.l 36 (opC oo n * 24 + y), (pcT σ0 c oo (tupM W t) n).2 &&& σ0.l 37 (opC oo n * 24 + y)) := by
            show anP (pcT σ0 c oo (tupM W t) n) (σ0.l 36 (opC oo n * 24 + tupM W t n), σ0.l 37 (opC oo n * 24 + tupM W t n)) = _
            rw [ety]
            rfl
          rw [this] at ih
          exact ih
    refine T_X3_countSets_106 Hq.1.1 ?_
    rw [oN_le (by omega) (by omega), show Int32.ofNat n = 0 ↔ n = 0 from oN_eq (b := 0) (by omega) (by decide), show Int32.ofNat n = 1 ↔ n = 1 from oN_eq (b := 1) (by omega) (by decide)]
    refine ⟨fun z => absurd z (by omega), fun _ => ⟨fun z => ⟨fun z2 => go t.2.2 ?_, fun z2 => go t.2.1 ?_⟩, fun z => go t.1 ?_⟩⟩
    · rw [if_neg z, if_neg z2]
    · rw [if_neg z, if_pos z2]
    · rw [if_pos z]
def pcX (W : Wld) (σ0 : Sg) (c oo as' : Nat) (y : Int64 × Int64) (t : Nat × Nat × Nat) : Prop := cdZ W c oo as' (tupM W t) = true ∧ y = pcT σ0 c oo (tupM W t) as'
theorem cs_80 {n1 n2 n3 i j : Nat} (hc : c < W.2.1.length) (hoo : oo < 6) (ho : ∀ n, n < plW W.2.1 c → opC oo n < plW W.2.1 c) (has : as' ≤ plW W.2.1 c) (hu : 1 ≤ u) (e3 : n3 = nZ W as' 2) (h3 : n3 ≤ 24) (h1 : i < nZ W as' 0) (h2 : j < nZ W as' 1) (kk : ∀ τ V' S', CnS C V0 W wy a0 c u σ0 V' S' τ → (∀ y, y ∈ S' ↔ y ∈ S ∨ ∃ k, k < n3 ∧ pcX W σ0 c oo as' y (i, j, k)) → S'.length ≤ S.length + n3 → C_X3_countSets_70 Z (d + 3) τ (Int32.ofNat c) (Int32.ofNat (3 * oo)) (Int32.ofNat as') (Int32.ofNat n1) (Int32.ofNat n2) (Int32.ofNat n3) (Int32.ofNat i) (Int32.ofNat (j + 1)) K) (hS : S.length + n3 ≤ 16000) : ∀ (r k : Nat) (σ : Sg) (V : Nat × Nat × Nat × Nat) (T : List (Int64 × Int64)), k + r = n3 → CnS C V0 W wy a0 c u σ0 V T σ → (∀ y, y ∈ T ↔ y ∈ S ∨ ∃ k', k' < k ∧ pcX W σ0 c oo as' y (i, j, k')) → T.length ≤ S.length + k → C_X3_countSets_80 Z (d + 3) σ (Int32.ofNat c) (Int32.ofNat (3 * oo)) (Int32.ofNat as') (Int32.ofNat n1) (Int32.ofNat n2) (Int32.ofNat n3) (Int32.ofNat i) (Int32.ofNat j) (Int32.ofNat k) K := by
  intro r
  induction r with
  | zero =>
    intro k σ V T hk H hT hl
    have e : k = n3 := by omega
    subst e
    refine T_X3_countSets_80 H.1.1.1 ⟨fun _ => ?_, fun z => absurd (Int32.le_refl _) z⟩
    rw [oN_1 j]
    exact kk σ V T H hT hl
  | succ r ih =>
    intro k σ V T hk H hT hl
    obtain ⟨c24, ec, p1, p3⟩ := H.1.cx hc
    obtain ⟨-, -, -, -, -, e36, e37, e58, e59⟩ := id H
    refine T_X3_countSets_80 H.1.1.1 ?_
    rw [oN_le (by omega) (by omega), oN_t (by omega), e58, e59]
    refine ⟨fun z => absurd z (by omega), fun _ => ⟨ib_oN c24 (by decide), ib_oN c24 (by decide), ?_⟩⟩
    refine cs_106 (t := (i, j, k)) hc hoo ho has H hu (by omega) h1 h2 (by dsimp only; omega) (by dsimp only; omega) (fun τ V' S' H' m' => ?_) as' 0 (by omega)
    refine ih (k + 1) τ V' S' (by omega) H' (fun y => (m' y).trans ?_) ?_
    · rw [hT]
      constructor
      · rintro ((q | ⟨k', q1, q2⟩) | q)
        · exact Or.inl q
        · exact Or.inr ⟨k', by omega, q2⟩
        · exact Or.inr ⟨k, by omega, q⟩
      · rintro (q | ⟨k', q1, q2⟩)
        · exact Or.inl (Or.inl q)
        · by_cases e : k' = k
          · subst e
            exact Or.inr q2
          · exact Or.inl (Or.inr ⟨k', by omega, q2⟩)
    · have := nd_le S' (pcT σ0 c oo (tupM W (i, j, k)) as' :: T) H'.2.2.1.2.2.2.2.1 (fun y hy => by
        rcases (m' y).mp hy with q | q
        · exact List.mem_cons_of_mem _ q
        · rw [q.2]
          exact List.mem_cons_self ..)
      rw [List.length_cons] at this
      omega
theorem cs_70 {n1 n2 n3 i : Nat} (hc : c < W.2.1.length) (hoo : oo < 6) (ho : ∀ n, n < plW W.2.1 c → opC oo n < plW W.2.1 c) (has : as' ≤ plW W.2.1 c) (hu : 1 ≤ u) (e2 : n2 = nZ W as' 1) (e3 : n3 = nZ W as' 2) (h2 : n2 ≤ 24) (h3 : n3 ≤ 24) (h1 : i < nZ W as' 0) (kk : ∀ τ V' S', CnS C V0 W wy a0 c u σ0 V' S' τ → (∀ y, y ∈ S' ↔ y ∈ S ∨ ∃ j k, j < n2 ∧ k < n3 ∧ pcX W σ0 c oo as' y (i, j, k)) → S'.length ≤ S.length + 24 * n2 → C_X3_countSets_60 Z (d + 3) τ (Int32.ofNat c) (Int32.ofNat (3 * oo)) (Int32.ofNat as') (Int32.ofNat n1) (Int32.ofNat n2) (Int32.ofNat n3) (Int32.ofNat (i + 1)) K) (hS : S.length ≤ 14000) : ∀ (r j : Nat) (σ : Sg) (V : Nat × Nat × Nat × Nat) (T : List (Int64 × Int64)), j + r = n2 → CnS C V0 W wy a0 c u σ0 V T σ → (∀ y, y ∈ T ↔ y ∈ S ∨ ∃ j' k, j' < j ∧ k < n3 ∧ pcX W σ0 c oo as' y (i, j', k)) → T.length ≤ S.length + 24 * j → C_X3_countSets_70 Z (d + 3) σ (Int32.ofNat c) (Int32.ofNat (3 * oo)) (Int32.ofNat as') (Int32.ofNat n1) (Int32.ofNat n2) (Int32.ofNat n3) (Int32.ofNat i) (Int32.ofNat j) K := by
  intro r
  induction r with
  | zero =>
    intro j σ V T hj H hT hl
    have e : j = n2 := by omega
    subst e
    refine T_X3_countSets_70 H.1.1.1 ⟨fun _ => ?_, fun z => absurd (Int32.le_refl _) z⟩
    rw [oN_1 i]
    exact kk σ V T H hT hl
  | succ r ih =>
    intro j σ V T hj H hT hl
    refine T_X3_countSets_70 H.1.1.1 ?_
    rw [oN_le (by omega) (by omega)]
    refine ⟨fun z => absurd z (by omega), fun _ => ?_⟩
    refine cs_80 (S := T) hc hoo ho has hu e3 h3 h1 (by omega) (fun τ V' S' H' m' l' => ?_) (by omega) n3 0 σ V T (by omega) H (fun y => ⟨Or.inl, fun z => z.elim id (fun ⟨k', q, _⟩ => absurd q (Nat.not_lt_zero _))⟩) (by omega)
    refine ih (j + 1) τ V' S' (by omega) H' (fun y => (m' y).trans ?_) (by omega)
    rw [hT]
    constructor
    · rintro ((q | ⟨j', k, q1, q2⟩) | ⟨k, q1, q2⟩)
      · exact Or.inl q
      · exact Or.inr ⟨j', k, by omega, q2⟩
      · exact Or.inr ⟨j, k, by omega, q1, q2⟩
    · rintro (q | ⟨j', k, q1, q2⟩)
      · exact Or.inl (Or.inl q)
      · by_cases e : j' = j
        · subst e
          exact Or.inr ⟨k, q2⟩
        · exact Or.inl (Or.inr ⟨j', k, by omega, q2⟩)
theorem cs_60 {n1 n2 n3 : Nat} (hc : c < W.2.1.length) (hoo : oo < 6) (ho : ∀ n, n < plW W.2.1 c → opC oo n < plW W.2.1 c) (has : as' ≤ plW W.2.1 c) (hu : 1 ≤ u) (e1 : n1 = nZ W as' 0) (e2 : n2 = nZ W as' 1) (e3 : n3 = nZ W as' 2) (h1 : n1 ≤ 24) (h2 : n2 ≤ 24) (h3 : n3 ≤ 24) (kk : ∀ τ V' S', CnS C V0 W wy a0 c u σ0 V' S' τ → (∀ y, y ∈ S' ↔ ∃ t, t ∈ tiL n1 n2 n3 ∧ pcX W σ0 c oo as' y t) → S'.length ≤ 13824 → K (.inl (some (.int (Int32.ofNat S'.length)))) τ) : ∀ (r i : Nat) (σ : Sg) (V : Nat × Nat × Nat × Nat) (T : List (Int64 × Int64)), i + r = n1 → CnS C V0 W wy a0 c u σ0 V T σ → (∀ y, y ∈ T ↔ ∃ i' j k, i' < i ∧ j < n2 ∧ k < n3 ∧ pcX W σ0 c oo as' y (i', j, k)) → T.length ≤ 576 * i → C_X3_countSets_60 Z (d + 3) σ (Int32.ofNat c) (Int32.ofNat (3 * oo)) (Int32.ofNat as') (Int32.ofNat n1) (Int32.ofNat n2) (Int32.ofNat n3) (Int32.ofNat i) K := by
  intro r
  induction r with
  | zero =>
    intro i σ V T hi H hT hl
    have e : i = n1 := by omega
    subst e
    refine T_X3_countSets_60 H.1.1.1 ⟨fun _ => ?_, fun z => absurd (Int32.le_refl _) z⟩
    rw [H.2.2.1.2.2.2.1.1]
    refine kk σ V T H (fun y => (hT y).trans ⟨fun ⟨i', j, k, q1, q2, q3, q4⟩ => ⟨(i', j, k), tiL_mem.mpr ⟨q1, q2, q3⟩, q4⟩, fun ⟨t, q1, q2⟩ => ?_⟩) (by omega)
    obtain ⟨q3, q4, q5⟩ := tiL_mem.mp q1
    exact ⟨t.1, t.2.1, t.2.2, q3, q4, q5, q2⟩
  | succ r ih =>
    intro i σ V T hi H hT hl
    refine T_X3_countSets_60 H.1.1.1 ?_
    rw [oN_le (by omega) (by omega)]
    refine ⟨fun z => absurd z (by omega), fun _ => ?_⟩
    refine cs_70 (S := T) hc hoo ho has hu e2 e3 h2 h3 (by omega) (fun τ V' S' H' m' l' => ?_) (by omega) n2 0 σ V T (by omega) H (fun y => ⟨Or.inl, fun z => z.elim id (fun ⟨j', k', q, _⟩ => absurd q (Nat.not_lt_zero _))⟩) (by omega)
    refine ih (i + 1) τ V' S' (by omega) H' (fun y => (m' y).trans ?_) (by omega)
    rw [hT]
    constructor
    · rintro (⟨i', j, k, q1, q2⟩ | ⟨j, k, q1, q2⟩)
      · exact ⟨i', j, k, by omega, q2⟩
      · exact ⟨i, j, k, by omega, q1, q2⟩
    · rintro ⟨i', j, k, q1, q2⟩
      by_cases e : i' = i
      · subst e
        exact Or.inr ⟨j, k, q2⟩
      · exact Or.inl ⟨i', j, k, by omega, q2⟩
/-- how many sets -/
theorem cl_countSets (hc : c < W.2.1.length) (hoo : oo < 6) (ho : ∀ n, n < plW W.2.1 c → opC oo n < plW W.2.1 c) (has : as' ≤ plW W.2.1 c) (hq : QwS C W wy a0 σ) (cv : CvN C V σ) (H : SetC σ V u S) (hl : LvS W c σ) (hu : u + 1 < 2147483648) (kk : ∀ τ V' S', QwS C W wy a0 τ → CvN C V' τ → SetC τ V' (u + 1) S' → LsF V V' σ τ → LvS W c τ → cnZ W c oo as' ≤ 13824 → K (.inl (some (.int (Int32.ofNat (cnZ W c oo as'))))) τ) : C_X3_countSets_0 Z (d + 3) σ (Int32.ofNat c) (Int32.ofNat (3 * oo)) (Int32.ofNat as') K := by
  have m24 := mk_24 hq
  obtain ⟨c24, ec, p1, p3⟩ := hq.cx hc
  refine T_X3_countSets_0 hq.1.1 (cl_emptySet hq.1.1 H hu (fun τ g g6 hs => ?_))
  have H0 : CnS C V W wy a0 c (u + 1) τ V [] τ := by
    have lf := g.ls g6
    have r := fun a (ha : a < 64) (h6 : a ≠ 56) => (LsF.row H.1 hq.1.1 lf ha h6).2
    exact ⟨hq.ls H.1 cv lf, cv.ls lf, hs, LsF.refl _ _, hl.keep (r 58 (by omega) (by omega)) (r 59 (by omega) (by omega)) (r 60 (by omega) (by omega)) (r 61 (by omega) (by omega)), rfl, rfl, rfl, rfl⟩
  have hq' := H0.1
  have nz : ∀ n, nZ W as' n ≤ 24 := fun n => by
    unfold nZ
    split <;> omega
  have go := cs_60 (Z := Z) (d := d) (K := K) (C := C) (V0 := V) (W := W) (wy := wy) (a0 := a0) (c := c) (oo := oo) (as' := as') (u := u + 1) (σ0 := τ) hc hoo ho has (by omega) rfl rfl rfl (nz 0) (nz 1) (nz 2) (fun υ V' S' H' m' l' => by
    have el : S'.length = cnZ W c oo as' := by
      have e1 := dsN_nd (L := ((tiL (nZ W as' 0) (nZ W as' 1) (nZ W as' 2)).filter fun t => cdZ W c oo as' (tupM W t)).map fun t => pcT τ c oo (tupM W t) as') H'.2.2.1.2.2.2.2.1 (fun y => (m' y).trans (by
        rw [List.mem_map]
        constructor
        · rintro ⟨t, q1, q2, q3⟩
          exact ⟨t, List.mem_filter.mpr ⟨q1, q2⟩, q3.symm⟩
        · rintro ⟨t, q1, q2⟩
          obtain ⟨q3, q4⟩ := List.mem_filter.mp q1
          exact ⟨t, q3, q4, q2.symm⟩))
      rw [e1]
      unfold cnZ
      refine dsN_map (fun x hx y hy => ?_)
      have lt : ∀ t ∈ ((tiL (nZ W as' 0) (nZ W as' 1) (nZ W as' 2)).filter fun t => cdZ W c oo as' (tupM W t)), ∀ m, 1 ≤ m → m ≤ 128 → pb (pcT τ c oo (tupM W t) as') m = sZ W c oo (tupM W t) as' m := fun t ht m m1 m2 => by
        obtain ⟨q1, q2, q3⟩ := tiL_mem.mp (List.mem_filter.mp ht).1
        exact pb_pc hq' H0.2.2.2.2.1 as' (fun i hi => (tup_lt hq' q1 q2 q3 (by omega) i hi).2) m m1 m2
      rw [pb_ext, seL_eq]
      constructor
      · intro q m m1 m2
        rw [← lt x hx m m1 m2, ← lt y hy m m1 m2]
        exact q m m1 m2
      · intro q m m1 m2
        rw [lt x hx m m1 m2, lt y hy m m1 m2]
        exact q m m1 m2
    have := kk υ V' S' H'.1 H'.2.1 H'.2.2.1 ((g.ls g6).tr H'.2.2.2.1) H'.2.2.2.2.1 (by omega)
    rw [el]
    exact this) (nZ W as' 0) 0 τ V [] (by omega) H0 (fun y => ⟨fun q => (by cases q), fun ⟨i', j, k, q, _⟩ => absurd q (Nat.not_lt_zero _)⟩) (Nat.zero_le _)
  have e14 := hq'.2.2.2.1.1.1
  have st : ∀ n, n < 3 → (Int32.ofNat as' ≤ Int32.ofNat n ↔ as' ≤ n) := fun n hn => oN_le (by omega) (by omega)
  have z0 : nZ W as' 0 = if as' ≤ 0 then 1 else (mkW W.1).length := rfl
  have z1 : nZ W as' 1 = if as' ≤ 1 then 1 else (mkW W.1).length := rfl
  have z2 : nZ W as' 2 = if as' ≤ 2 then 1 else (mkW W.1).length := rfl
  have g37 : C_X3_countSets_37 Z (d + 3) τ (Int32.ofNat c) (Int32.ofNat (3 * oo)) (Int32.ofNat as') (Int32.ofNat (nZ W as' 0)) (Int32.ofNat (nZ W as' 1)) K := by
    refine T_X3_countSets_37 hq'.1.1 ?_
    rw [e14, show Int32.ofNat as' ≤ 2 ↔ as' ≤ 2 from st 2 (by omega)]
    refine ⟨fun z => ?_, fun z => ?_⟩
    · rw [if_pos z] at z2
      rw [z2] at go
      exact go
    · rw [if_neg z] at z2
      rw [z2] at go
      exact go
  have g19 : C_X3_countSets_19 Z (d + 3) τ (Int32.ofNat c) (Int32.ofNat (3 * oo)) (Int32.ofNat as') (Int32.ofNat (nZ W as' 0)) K := by
    refine T_X3_countSets_19 hq'.1.1 ?_
    rw [e14, show Int32.ofNat as' ≤ 1 ↔ as' ≤ 1 from st 1 (by omega)]
    refine ⟨fun z => ?_, fun z => ?_⟩
    · rw [if_pos z] at z1
      rw [z1] at g37
      exact g37
    · rw [if_neg z] at z1
      rw [z1] at g37
      exact g37
  show (Int32.ofNat as' ≤ 0 → _) ∧ (¬ Int32.ofNat as' ≤ 0 → _)
  rw [e14, show Int32.ofNat as' ≤ 0 ↔ as' ≤ 0 from st 0 (by omega)]
  refine ⟨fun z => ?_, fun z => ?_⟩
  · rw [if_pos z] at z0
    rw [z0] at g19
    exact g19
  · rw [if_neg z] at z0
    rw [z0] at g19
    exact g19
end CNT

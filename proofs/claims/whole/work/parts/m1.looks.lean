/-! THE CLASS: plans, lists, cells, nodes, looks -/
section LOOKC
variable {Z : zT} {d A u : Nat} {σ σ0 τ υ : Sg} {K : kS} {C : Nat × Nat × Nat × Nat} {V V0 V' V2 : Nat × Nat × Nat × Nat} {W : Wld} {wy a0 j j' kA pl w c oo as' : Nat} {k k' : Nat → Nat} {S : List (Int64 × Int64)}
theorem upN_cg (h : τ.i 57 = σ.i 57) (g : τ.i 1 16 = σ.i 1 16) : upN τ = upN σ := by
  unfold upN
  rw [h, g]
theorem LiS.keep (h : LiS W σ) (e57 : τ.i 57 = σ.i 57) (e1 : τ.i 1 16 = σ.i 1 16) (e62 : τ.i 62 = σ.i 62) (e63 : τ.i 63 = σ.i 63) (h58 : τ.l 58 = σ.l 58) (h59 : τ.l 59 = σ.l 59) (h60 : τ.l 60 = σ.l 60) (h61 : τ.l 61 = σ.l 61) : LiS W τ := by
  refine ⟨fun c hc e => ?_, fun c hc => by rw [e57, e1]; exact h.2 c hc⟩
  rw [e57, e1] at e
  obtain ⟨h1, h2, h3⟩ := h.1 c hc e
  rw [e62, e63]
  exact ⟨h1.keep h58 h59 h60 h61, h2, h3⟩
theorem LqS.ls {u' : Nat} {S' : List (Int64 × Int64)} (h : LqS C W wy a0 V u σ) (g : LsF V V' σ τ) (hs : SetC τ V' u' S') : LqS C W wy a0 V' u' τ ∧ upN τ = upN σ := by
  obtain ⟨h1, h2, ⟨S, h3⟩, h4⟩ := h
  have r := fun a (ha : a < 64) (h6 : a ≠ 56) => LsF.row h3.1 h1.1.1 g ha h6
  have e1 : τ.i 1 16 = σ.i 1 16 := congrFun (r 1 (by omega) (by omega)).1 16
  exact ⟨⟨h1.ls h3.1 h2 g, h2.ls g, ⟨S', hs⟩, h4.keep (r 57 (by omega) (by omega)).1 e1 (r 62 (by omega) (by omega)).1 (r 63 (by omega) (by omega)).1 (r 58 (by omega) (by omega)).2 (r 59 (by omega) (by omega)).2 (r 60 (by omega) (by omega)).2 (r 61 (by omega) (by omega)).2⟩, upN_cg (r 57 (by omega) (by omega)).1 e1⟩
theorem cl_plan (h : LqS C W wy a0 V u σ) (hc : c < W.2.1.length) (hu : u + 18 * upN σ < 2147483648) (kk : ∀ τ V' u', LqS C W wy a0 V' u' τ → LpF V V' σ τ → u' + 18 * upN τ ≤ u + 18 * upN σ → τ.i 57 c = τ.i 1 16 → K (.inl none) τ) : C_X3_plan_0 Z (d + 5) σ (Int32.ofNat c) K := by
  have hh := h
  obtain ⟨hq, cv, ⟨S, hS⟩, li⟩ := h
  obtain ⟨c24, ec, p1, p3⟩ := hq.cx hc
  refine T_X3_plan_0 hq.1.1 ?_
  rw [oN_t (by omega)]
  refine ⟨ib_oN c24 (by decide), fun no => ⟨ib_oN c24 (by decide), ?_⟩, fun z => kk σ V u hh (LpF.refl _ _) (Nat.le_refl _) z⟩
  have u1 : upN ((σ.wi 57 c (σ.i 1 16))) + 1 = upN σ := by
    unfold upN
    refine fl_flip (c := c) (f := fun c => decide (σ.i 57 c ≠ σ.i 1 16)) (g := fun x => decide ((σ.wi 57 c (σ.i 1 16)).i 57 x ≠ (σ.wi 57 c (σ.i 1 16)).i 1 16)) (decide_eq_true no) ?_ (fun x hx => ?_) 24 c24
    · rw [wi_at, wi_ne (by omega)]
      exact decide_eq_false (fun z => z rfl)
    · rw [wi_ne (by omega), wi_ne (by omega)]
  have x1 : XF (fun a => 57 ≤ a ∧ a ≤ 63) σ (σ.wi 57 c (σ.i 1 16)) := (XF.refl _ _).wi (by omega)
  have hq1 := hq.xf x1 (fun a q => by omega)
  refine cl_findLive hq1 hc (fun τ f hl => ⟨ib_oN c24 (by decide), ?_⟩)
  have x2 : XF (fun a => 57 ≤ a ∧ a ≤ 63) (σ.wi 57 c (σ.i 1 16)) τ := f.1.mono (fun a q => by omega)
  have x3 : XF (fun a => 57 ≤ a ∧ a ≤ 63) τ (τ.wi 63 c 2147483647) := (XF.refl _ _).wi (by omega)
  have x13 := (x1.tr x2).tr x3
  have hq3 := hq.xf x13 (fun a q => by omega)
  have e57 : ∀ x, (τ.wi 63 c 2147483647).i 57 x = (σ.wi 57 c (σ.i 1 16)).i 57 x := fun x => by
    rw [wi_ne (by omega), f.2.1]
  have e116 : (τ.wi 63 c 2147483647).i 1 16 = σ.i 1 16 := by
    rw [wi_ne (by omega), f.2.1, wi_ne (by omega)]
  refine pn_45 (V := V) (σ := τ.wi 63 c 2147483647) hc u (by omega) (fun υ V' u' q1 q2 q3 q4 q5 q6 q7 q8 q9 q10 q11 => ?_) 6 0 (τ.wi 63 c 2147483647) V u (by omega) hq3 (cv.xf x13) ⟨S, hS.xf x13 (fun a q => q)⟩ (LpF.refl _ _) hl rfl (fun c' hc' => ⟨rfl, rfl⟩) ⟨rfl, rfl, rfl, rfl⟩ (by omega) (fun z => absurd z (by omega)) ⟨by rw [wi_at]; rfl, by show 2147483647 < 2147483648; decide⟩
  have l100 : 101 < (τ.wi 63 c 2147483647).sh.length := (List.getElem?_eq_some_iff.mp (hq3.1.1.s (a := 101) t0_101)).1
  have f116 : υ.i 1 16 = σ.i 1 16 := by
    have A := hS.1
    obtain ⟨-, -, -, -, p8, p9, p10, -⟩ := A
    rw [← e116]
    exact congrFun (q4.1.2.2 1 (by omega) (fun z => by unfold seE at z; omega)).1 16
  have f57 : ∀ x, υ.i 57 x = (σ.wi 57 c (σ.i 1 16)).i 57 x := fun x => by
    rw [q6]
    exact e57 x
  have un : upN υ = upN (σ.wi 57 c (σ.i 1 16)) := by
    unfold upN
    congr 2
    funext x
    rw [f57, f116, wi_ne (show ¬ (1 = 57 ∧ 16 = c) by omega)]
  refine kk υ V' u' ⟨q1, q2, q3, fun c' hc' e => ?_, fun c' hc' => ?_⟩ ((x13.lp V (fun a q => q)).tr q4) (by omega) (by rw [f57, f116, wi_at])
  case refine_2 =>
    rw [f57, f116]
    by_cases ce : c' = c
    · rw [ce, wi_at]
      exact Int.le_refl _
    · rw [wi_ne (fun z => ce z.2)]
      exact li.2 c' hc'
  by_cases ce : c' = c
  · subst ce
    exact ⟨q5, q10, q11⟩
  · rw [f57, f116, wi_ne (fun z => ce z.2)] at e
    obtain ⟨l1, l2, l3⟩ := li.1 c' hc' e
    refine ⟨?_, ?_, ?_⟩
    · have s58 : ∀ x, x ≠ c → υ.l 58 x = σ.l 58 x ∧ υ.l 59 x = σ.l 59 x := fun x hx => by
        rw [q8.1, q8.2.1]
        exact f.2.2.1 x hx
      have s60 : ∀ x, x / 3 ≠ c → υ.l 60 x = σ.l 60 x ∧ υ.l 61 x = σ.l 61 x := fun x hx => by
        rw [q8.2.2.1, q8.2.2.2]
        exact f.2.2.2 x hx
      obtain ⟨c24', -, p1', p3'⟩ := hq.cx hc'
      refine ⟨fun m m1 m2 => ?_, fun p hp m m1 m2 => ?_⟩
      · have := l1.1 m m1 m2
        unfold lpC at this ⊢
        rw [(s58 c' ce).1, (s58 c' ce).2]
        exact this
      · have := l1.2 p hp m m1 m2
        unfold apC at this ⊢
        rw [(s60 (3 * c' + p) (by omega)).1, (s60 (3 * c' + p) (by omega)).2]
        exact this
    · rw [(q7 c' ce).1, wi_ne (by omega), f.2.1, wi_ne (by omega)]
      exact l2
    · rw [(q7 c' ce).2, wi_ne (by omega), f.2.1, wi_ne (by omega)]
      exact l3
theorem LpF.row (A : SeA σ V) (F : FX ΦC σ.sh σ.r) (g : LpF V V' σ τ) {a : Nat} (ha : a < 56 ∨ (66 < a ∧ a < 102)) : τ.i a = σ.i a ∧ τ.l a = σ.l a := by
  have l100 : 101 < σ.sh.length := (List.getElem?_eq_some_iff.mp (F.s (a := 101) t0_101)).1
  refine g.1.2.2 a (by omega) (fun z => ?_)
  obtain ⟨-, -, -, -, h1, h2, h3, -⟩ := A
  unfold seE at z
  omega
/-- a frame of what lists may write, with the marks that are used -/
def LmF (V V' : Nat × Nat × Nat × Nat) (u u' n : Nat) (σ τ : Sg) : Prop := LpF V V' σ τ ∧ u' + 18 * upN τ ≤ u + 18 * upN σ + n
theorem cl_lists (h : LqS C W wy a0 V u σ) (hc : c < W.2.1.length) (hu : u + 18 * upN σ + 1 < 2147483648) (kk : ∀ τ V' u', LqS C W wy a0 V' u' τ → LmF V V' u u' 1 σ τ → K (.inl (some (.int (Int32.ofNat (lsN W c))))) τ) : C_X3_countLists_0 Z (d + 6) σ (Int32.ofNat c) K := by
  refine T_X3_countLists_0 h.1.1.1 (cl_plan h hc (by omega) (fun τ V1 u1 h1 f1 b1 e1 => ?_))
  obtain ⟨c24, ec, p1, p3⟩ := h1.1.cx hc
  refine ⟨ib_oN c24 (by decide), ?_⟩
  rw [oN_t (by omega), ec]
  obtain ⟨S, hS⟩ := h1.2.2.1
  refine cl_countSets (oo := 0) hc (by omega) (fun n hn => ?_) (Nat.le_refl _) h1.1 h1.2.1 hS (h1.2.2.2.1 c hc e1).1 (by omega) (fun υ V2 S2 q1 q2 q3 q4 q5 q6 => ?_)
  · have : n = 0 ∨ n = 1 ∨ n = 2 := by omega
    rcases this with rfl | rfl | rfl
    · show 0 < _
      omega
    · show 1 < _
      omega
    · show 2 < _
      omega
  · obtain ⟨L, un⟩ := h1.ls q4 q3
    have := kk υ V2 (u1 + 1) L ⟨f1.tr q4.lp, by omega⟩
    rw [← cn_ls p1 p3] at this
    exact this
theorem cl_cells (h : QwS C W wy a0 σ) (hc : c < W.2.1.length) (kk : K (.inl (some (.int (Int32.ofNat (clN W c false (plW W.2.1 c)))))) σ) : C_X3_countCells_0 Z (d + 1) σ (Int32.ofNat c) K := by
  obtain ⟨c24, ec, p1, p3⟩ := h.cx hc
  have lp : ∀ r n, n + r = plW W.2.1 c → C_X3_countCells_4 Z (d + 1) σ (Int32.ofNat c) (Int32.ofNat (clN W c false n)) (Int32.ofNat n) K := by
    intro r
    induction r with
    | zero =>
      intro n hn
      have en : n = plW W.2.1 c := by omega
      subst en
      refine T_X3_countCells_4 h.1.1 ?_
      rw [oN_t (by omega), ec]
      exact ⟨ib_oN c24 (by decide), fun _ => kk, fun z => absurd (Int32.le_refl _) z⟩
    | succ r ih =>
      intro n hn
      refine T_X3_countCells_4 h.1.1 ?_
      rw [oN_t (by omega), ec, h.2.2.2.1.1.1, oN_mul, oN_1, oN_le (by omega) (by omega)]
      refine ⟨ib_oN c24 (by decide), fun z => absurd z (by omega), fun _ => ?_⟩
      have := ih (n + 1) (by omega)
      rw [clN, if_neg (by decide)] at this
      exact this
  exact T_X3_countCells_0 h.1.1 (lp _ 0 (Nat.zero_add _))
theorem cl_nodes (h : LqS C W wy a0 V u σ) (hc : c < W.2.1.length) (hu : u + 18 * upN σ < 2147483648) (kk : ∀ τ V' u', LqS C W wy a0 V' u' τ → LmF V V' u u' 0 σ τ → K (.inl (some (.int (Int32.ofNat (orW W c (ocN (plW W.2.1 c))).2)))) τ) : C_X3_countNodes_0 Z (d + 6) σ (Int32.ofNat c) K := by
  refine T_X3_countNodes_0 h.1.1.1 (cl_plan h hc hu (fun τ V1 u1 h1 f1 b1 e1 => ?_))
  obtain ⟨c24, ec, p1, p3⟩ := h1.1.cx hc
  refine ⟨ib_oN c24 (by decide), ?_⟩
  have e63 := (h1.2.2.2.1 c hc e1).2.2
  rw [op_link h1.1.1.2.1.2.1 p1 p3] at e63
  rw [oN_t (by omega), e63]
  exact kk τ V1 u1 h1 ⟨f1, by omega⟩
/-- pressed tables -/
theorem cp_29 {p : Nat} {l2 : Int32} (hc : c < W.2.1.length) (hp : p < plW W.2.1 c) (hu1 : 1 ≤ u) (V0 : Nat × Nat × Nat × Nat) (σ0 : Sg) (kk : ∀ τ V' S', LqS C W wy a0 V' u τ → LsF V0 V' σ0 τ → SetC τ V' u S' → upN τ = upN σ0 → τ.i 57 c = τ.i 1 16 → S'.length = dsN ((mkW W.1).map fun k => seL fun m => lvZ W c (plW W.2.1 c) m && fiZ W p k m) → C_X3_countPressed_9 Z (d + 3) τ (Int32.ofNat c) (l2 * Int32.ofNat S'.length) (Int32.ofNat (p + 1)) K) : ∀ (r i : Nat) (τ : Sg) (V' : Nat × Nat × Nat × Nat) (S : List (Int64 × Int64)), i + r = (mkW W.1).length → LqS C W wy a0 V' u τ → LsF V0 V' σ0 τ → SetC τ V' u S → upN τ = upN σ0 → τ.i 57 c = τ.i 1 16 → (∀ y, y ∈ S ↔ y ∈ ((mkW W.1).take i).map fun k => anP (lpC τ c) (fpC τ p k)) → C_X3_countPressed_29 Z (d + 3) τ (Int32.ofNat c) l2 (Int32.ofNat p) (Int32.ofNat i) K := by
  intro r
  induction r with
  | zero =>
    intro i τ V' S hi h lf hS un ev hm
    have m24 := mk_24 h.1
    obtain ⟨c24, ec, p1, p3⟩ := h.1.cx hc
    rw [List.take_of_length_le (by omega)] at hm
    refine T_X3_countPressed_29 h.1.1.1 ?_
    rw [h.1.2.2.2.1.1.1, oN_le (by omega) (by omega), oN_1, hS.2.2.2.1.1]
    refine ⟨fun _ => kk τ V' S h lf hS un ev ?_, fun z => absurd (by omega) z⟩
    rw [dsN_nd hS.2.2.2.2.1 hm]
    refine dsN_map (fun x hx y hy => ?_)
    have lv := (h.2.2.2.1 c hc ev).1
    have e : ∀ x ∈ mkW W.1, ∀ m, 1 ≤ m → m ≤ 128 → pb (anP (lpC τ c) (fpC τ p x)) m = (lvZ W c (plW W.2.1 c) m && fiZ W p x m) := fun x hx m m1 m2 => by
      rw [pb_an, lv.1 m m1 m2, pb_fp h.1 (by omega) (mk_lt hx) m1 m2]
    rw [pb_ext, seL_eq]
    constructor
    · intro q m m1 m2
      rw [← e x hx m m1 m2, ← e y hy m m1 m2]
      exact q m m1 m2
    · intro q m m1 m2
      rw [e x hx m m1 m2, e y hy m m1 m2]
      exact q m m1 m2
  | succ r ih =>
    intro i τ V' S hi h lf hS un ev hm
    have m24 := mk_24 h.1
    obtain ⟨c24, ec, p1, p3⟩ := h.1.cx hc
    obtain ⟨y, hy, yl, y24, ey⟩ := h.1.mk (i := i) (by omega)
    have sl : S.length ≤ 24 := by
      have := nd_le S _ hS.2.2.2.2.1 (fun y hy => (hm y).mp hy)
      rw [List.length_map, List.length_take] at this
      omega
    refine T_X3_countPressed_29 h.1.1.1 ?_
    rw [h.1.2.2.2.1.1.1, oN_le (by omega) (by omega), oN_t (by omega), ey, show (24 : Int32) = Int32.ofNat 24 from rfl, oN_mul, oN_add, oN_t (by omega), oN_t (by omega), oN_1 i]
    refine ⟨fun z => absurd z (by omega), fun _ => ⟨ib_oN (by omega) (by decide), ?_⟩⟩
    refine cl_makeRoom h.1.1.1 hS hu1 (by omega) (fun τ1 V1 g1 g2 g3 g4 s1 s2 => ?_)
    have l1 : LsF V' V1 τ τ1 := ⟨g1, fun k _ _ => by rw [g2], g3, by rcases g4 with e | e; left; rw [e]; right; exact e.1, by rcases g4 with e | e; left; rw [e]; right; exact e.2.1, by rcases g4 with e | e; left; rw [e]; right; exact e.2.2⟩
    obtain ⟨L1, n1⟩ := h.ls l1 s1
    refine ⟨ib_oN c24 (by decide), ib_oN (by omega) (by decide), ib_oN c24 (by decide), ib_oN (by omega) (by decide), ?_⟩
    refine cl_addToSet (x := anP (lpC τ1 c) (fpC τ1 p y)) L1.1.1.1 s1 hu1 s2 (fun τ2 g5 g6 s3 => ?_)
    have l2' := g5.ls g6
    obtain ⟨L2, n2⟩ := L1.ls l2' s3
    have lt := l1.tr l2'
    have rr := fun a (ha : a < 64) (h6 : a ≠ 56) => LsF.row hS.1 h.1.1.1 lt ha h6
    have r1 := fun a (ha : a < 64) (h6 : a ≠ 56) => LsF.row hS.1 h.1.1.1 l1 ha h6
    have el : ∀ k, anP (lpC τ2 c) (fpC τ2 p k) = anP (lpC τ c) (fpC τ p k) := fun k => by
      unfold lpC fpC
      rw [(rr 58 (by omega) (by omega)).2, (rr 59 (by omega) (by omega)).2, (rr 36 (by omega) (by omega)).2, (rr 37 (by omega) (by omega)).2]
    have el1 : anP (lpC τ1 c) (fpC τ1 p y) = anP (lpC τ c) (fpC τ p y) := by
      unfold lpC fpC
      rw [(r1 58 (by omega) (by omega)).2, (r1 59 (by omega) (by omega)).2, (r1 36 (by omega) (by omega)).2, (r1 37 (by omega) (by omega)).2]
    refine ih (i + 1) τ2 V1 _ (by omega) L2 (lf.tr lt) s3 (by omega) ?_ (fun z => ?_)
    · rw [(rr 57 (by omega) (by omega)).1, (rr 1 (by omega) (by omega)).1]
      exact ev
    · have et : (mkW W.1).take (i + 1) = (mkW W.1).take i ++ [y] := by
        rw [List.take_succ, hy]
        rfl
      simp only [el]
      rw [et, List.map_append, List.mem_append, ← hm, el1, List.map_singleton, List.mem_singleton]
      by_cases q : anP (lpC τ c) (fpC τ p y) ∈ S
      · rw [if_pos (pD_iff.mpr q)]
        exact ⟨Or.inl, fun w => w.elim id (fun w => by rw [w]; exact q)⟩
      · rw [if_neg (fun w => q (pD_iff.mp w)), List.mem_cons]
        exact ⟨fun w => w.symm, fun w => w.symm⟩
theorem pr_eq (h1 : 1 ≤ plW W.2.1 c) {p : Nat} (hp : p < plW W.2.1 c) : dsN ((mkW W.1).map fun k => seL fun m => lvZ W c (plW W.2.1 c) m && fiZ W p k m) = dsN ((mkW W.1).map fun k => seL fun m => otS W c p m && fS W c p k m) := by
  congr 1
  refine List.map_congr_left (fun k hk => ?_)
  congr 1
  funext m
  rw [fS_z, Bool.eq_iff_iff]
  unfold lvZ otS
  simp only [Bool.and_eq_true, List.all_eq_true, List.mem_range, Bool.or_eq_true, decide_eq_true_iff]
  constructor
  · rintro ⟨⟨a1, a2⟩, a3⟩
    refine ⟨fun j hj => Or.inr ?_, a1, a3⟩
    rw [anS_z, a1, a2 j hj]
    rfl
  · rintro ⟨a1, a2, a3⟩
    refine ⟨⟨a2, fun j hj => ?_⟩, a3⟩
    rcases a1 j hj with e | e
    · subst e
      unfold anZ
      rw [List.any_eq_true]
      exact ⟨k, hk, a3⟩
    · rw [anS_z, a2] at e
      exact e
theorem cl_pressed (h : LqS C W wy a0 V u σ) (hc : c < W.2.1.length) (hu : u + 18 * upN σ + 3 < 2147483648) (kk : ∀ τ V' u', LqS C W wy a0 V' u' τ → LmF V V' u u' 3 σ τ → K (.inl (some (.int (Int32.ofNat (clN W c true (plW W.2.1 c)))))) τ) : C_X3_countPressed_0 Z (d + 6) σ (Int32.ofNat c) K := by
  refine T_X3_countPressed_0 h.1.1.1 (cl_plan h hc (by omega) (fun τ V1 u1 h1 f1 b1 e1 => ?_))
  have lp : ∀ (r p : Nat) (υ : Sg) (V' : Nat × Nat × Nat × Nat) (u' : Nat), p + r = plW W.2.1 c → LqS C W wy a0 V' u' υ → LpF V V' σ υ → u' + 18 * upN υ ≤ u + 18 * upN σ + p → υ.i 57 c = υ.i 1 16 → C_X3_countPressed_9 Z (d + 6) υ (Int32.ofNat c) (Int32.ofNat (clN W c true p)) (Int32.ofNat p) K := by
    intro r
    induction r with
    | zero =>
      intro p υ V' u' hp hq lf hb he
      obtain ⟨c24, ec, p1, p3⟩ := hq.1.cx hc
      have en : p = plW W.2.1 c := by omega
      subst en
      refine T_X3_countPressed_9 hq.1.1.1 ?_
      rw [oN_t (by omega), ec]
      exact ⟨ib_oN c24 (by decide), fun _ => kk υ V' u' hq ⟨lf, by omega⟩, fun z => absurd (Int32.le_refl _) z⟩
    | succ r ih =>
      intro p υ V' u' hp hq lf hb he
      obtain ⟨c24, ec, p1, p3⟩ := hq.1.cx hc
      refine T_X3_countPressed_9 hq.1.1.1 ?_
      rw [oN_t (by omega), ec, oN_le (by omega) (by omega)]
      refine ⟨ib_oN c24 (by decide), fun z => absurd z (by omega), fun _ => ?_⟩
      obtain ⟨S, hS⟩ := hq.2.2.1
      refine cl_emptySet hq.1.1.1 hS (by omega) (fun ρ g g6 hs => ?_)
      obtain ⟨L, un⟩ := hq.ls (g.ls g6) hs
      have rr := fun a (ha : a < 64) (h6 : a ≠ 56) => LsF.row hS.1 hq.1.1.1 (g.ls g6) ha h6
      refine cp_29 hc (by omega) (by omega) V' υ (fun χ V2 S2 q1 q2 q3 q4 q5 q6 => ?_) (mkW W.1).length 0 ρ V' [] (by omega) L (g.ls g6) hs un (by rw [(rr 57 (by omega) (by omega)).1, (rr 1 (by omega) (by omega)).1]; exact he) (fun y => by rw [List.take_zero, List.map_nil])
      rw [oN_mul]
      have := ih (p + 1) χ V2 (u' + 1) (by omega) q1 (lf.tr q2.lp) (by omega) q5
      rw [clN, if_pos rfl, ← pr_eq p1 (by omega), ← q6] at this
      exact this
  exact lp _ 0 τ V1 u1 (Nat.zero_add _) h1 f1 (by omega) e1
end LOOKC

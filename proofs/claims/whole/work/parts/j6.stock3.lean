/-! THE CLASS: taking stock, whole -/
section ST3
variable {Z : zT} {d : Nat} {C : Nat × Nat × Nat × Nat} {W : Wld} {σ τ υ : Sg} {K : kS} {a0 : Nat}
/-- the sets by calls, as g says -/
def ClZ (g : Nat → Nat → Bool) (σ : Sg) : Prop := ∀ c, c < 24 → ∀ m, 1 ≤ m → m ≤ 128 → pb (σ.l 34 c, σ.l 35 c) m = g c m
/-- a method that is there -/
theorem cl_stockOf {m c : Nat} {x : Mtd × Bool} {f : Nat → Nat → Nat → Bool} {g : Nat → Nat → Bool} (hm : 1 ≤ m ∧ m ≤ 120) (S : SkR C W a0 σ) (hx : W.2.2.2[m - 1]? = some x) (hg : x.2 = false) (hc : x.1.1 = (c : Int)) (hG : ClZ g σ) (hF : FtZ W f σ) (kk : ∀ τ, SkF σ τ → τ.i = σ.i → ClZ (fun c' m' => g c' m' || (decide (m' = m) && decide (c' = c))) τ → FtZ W (fun p' k' m' => f p' k' m' || (decide (m' = m) && decide (p' < plW W.2.1 c) && decide (kdW W.2.2.2 m p' ∈ rwW W.1 1 k'))) τ → K (.inl none) τ) : C_X11_takeStockOf_0 Z (d + 2) σ (Int32.ofNat m) K := by
  have l24 := S.2.1.2.1
  obtain ⟨cl24, c5⟩ := S.2.2.2.1
  have hM := S.2.2.2.2.1
  have hWf := S.2.2.2.2.2.1
  obtain ⟨q, w1, w2, w3, w4, w5, w6, -⟩ := hWf.2.2 x (List.mem_of_getElem? hx)
  have eq : q = c := by
    have : x.1.1 = (q : Int) := w1
    omega
  subst eq
  obtain ⟨t1, t2, t3, t4, -⟩ := hM.2.2.2.2 (m - 1) x hx
  rw [show m - 1 + 1 = m by omega] at t1 t4
  have t1 : σ.i 11 m = Int32.ofNat q := by
    rw [t1, hg, if_neg (by decide), hc]
    rfl
  obtain ⟨y, hy⟩ : ∃ y, W.2.1[q]? = some y := ⟨_, List.getElem?_eq_getElem w2⟩
  have ey : plW W.2.1 q = y.2.1 := by
    unfold plW
    rw [hy]
    rfl
  obtain ⟨b1, b2⟩ := c5 q y hy
  -- from the sets of the call on
  have go : C_X11_takeStockOf_32 Z (d + 2) σ (Int32.ofNat m) (fbt m) (sbt m) K := by
    refine T_X11_takeStockOf_32 S.1 ?_
    rw [oN_t (by omega), t1, oN_t (by omega)]
    refine ⟨ib_oN (by omega) (by omega), ib_oN (by omega) (by omega), ib_oN (by omega) (by omega), ib_oN (by omega) (by omega), ib_oN (by omega) (by omega), ?_⟩
    have s1 : SkF σ ((σ.wl 34 q (σ.l 34 q ||| fbt m)).wl 35 q (σ.l 35 q ||| sbt m)) := ⟨rfl, rfl, fun _ _ _ _ => rfl, fun a j r => (wl_ne (σ := σ.wl 34 q (σ.l 34 q ||| fbt m)) (by omega)).trans (wl_ne (by omega))⟩
    have x1 : ∀ c', ((σ.wl 34 q (σ.l 34 q ||| fbt m)).wl 35 q (σ.l 35 q ||| sbt m)).l 34 c' = if c' = q then σ.l 34 q ||| fbt m else σ.l 34 c' := fun c' => by
      by_cases r : c' = q
      · rw [if_pos r, r]
        exact (wl_ne (by omega)).trans wl_eq
      · rw [if_neg r]
        exact (wl_ne (by omega)).trans (wl_ne (by omega))
    have x2 : ∀ c', ((σ.wl 34 q (σ.l 34 q ||| fbt m)).wl 35 q (σ.l 35 q ||| sbt m)).l 35 c' = if c' = q then σ.l 35 q ||| sbt m else σ.l 35 c' := fun c' => by
      by_cases r : c' = q
      · rw [if_pos r, r]
        exact wl_eq
      · rw [if_neg r]
        exact (wl_ne (by omega)).trans (wl_ne (by omega))
    have x3 : ∀ a j, 36 ≤ a → ((σ.wl 34 q (σ.l 34 q ||| fbt m)).wl 35 q (σ.l 35 q ||| sbt m)).l a j = σ.l a j := fun a j r => (wl_ne (by omega)).trans (wl_ne (by omega))
    have xi : ((σ.wl 34 q (σ.l 34 q ||| fbt m)).wl 35 q (σ.l 35 q ||| sbt m)).i = σ.i := rfl
    generalize (σ.wl 34 q (σ.l 34 q ||| fbt m)).wl 35 q (σ.l 35 q ||| sbt m) = τ at s1 x1 x2 x3 xi ⊢
    have S1 := S.sk s1
    have hG1 : ClZ (fun c' m' => g c' m' || (decide (m' = m) && decide (c' = q))) τ := fun c' r1 m' r2 r3 => by
      rw [x1, x2]
      by_cases r : c' = q
      · subst r
        rw [if_pos rfl, if_pos rfl, pb_or hm ⟨r2, r3⟩, hG c' r1 m' r2 r3]
        simp
      · rw [if_neg r, if_neg r, hG c' r1 m' r2 r3]
        dsimp only
        rw [decide_eq_false r]
        simp
    have hF1 : FtZ W f τ := fun p' k' r1 r2 m' r3 r4 => by
      rw [x3 36 _ (by omega), x3 37 _ (by omega)]
      exact hF p' k' r1 r2 m' r3 r4
    refine so_71 (σ := τ) (pl := plW W.2.1 q) (ys := fun p => kdW W.2.2.2 m p) (f := f) hm (by omega) S1 (by rw [xi, b1, ey]) (by rw [ey]; omega) (fun p hp => ?_) (fun τ2 g2 hF2 => kk τ2 (s1.tr g2.1) (g2.2.1.trans xi) (fun c' r1 m' r2 r3 => by rw [g2.2.2.1, g2.2.2.2]; exact hG1 c' r1 m' r2 r3) hF2) _ 0 τ rfl (Nat.zero_le _) (Sk2.refl _) (hF1.cg (fun p' k' m' r1 r2 r3 r4 => ?_))
    · have ks : kdW W.2.2.2 m p = (x.1.2.2.2.1.getD p (0, false, 0)).1.toNat := by
        unfold kdW
        rw [hx]
      have mem : (x.1.2.2.2.1.getD p (0, false, 0)) ∈ x.1.2.2.2.1 := by
        rw [List.getD_eq_getElem?_getD, List.getElem?_eq_getElem (by omega)]
        exact List.getElem_mem _
      have r := (w6 _ mem).1
      refine ⟨by show kdW W.2.2.2 m p < 24; omega, ?_⟩
      rw [xi, (t4 p (by omega)).1]
      show _ = Int32.ofInt ((kdW W.2.2.2 m p : Nat) : Int)
      rw [ks, Int.toNat_of_nonneg r.1]
    · rw [decide_eq_false (show ¬ p' < 0 by omega)]
      simp
  refine T_X11_takeStockOf_0 S.1 ?_
  rw [show (64 : Int32) = Int32.ofNat 64 from rfl, oN_lt (by decide) (by omega), show (1 : Int32) = Int32.ofNat 1 from rfl, oN_sb (by omega)]
  refine ⟨fun z => T_X11_takeStockOf_15 S.1 ?_, fun z => T_X11_takeStockOf_15 S.1 ?_⟩
  · rw [show (64 : Int32) = Int32.ofNat 64 from rfl, oN_lt (by decide) (by omega), show (65 : Int32) = Int32.ofNat 65 from rfl, oN_sb (by omega)]
    refine ⟨fun _ => ?_, fun y => absurd z y⟩
    have e1 : fbt m = 0 := if_neg (by omega)
    have e2 : sbt m = (1 : Int64) <<< (Int32.toInt64 (Int32.ofNat (m - 65)) &&& 63) := if_neg (by omega)
    rw [e1, e2] at go
    exact go
  · rw [show (64 : Int32) = Int32.ofNat 64 from rfl, oN_lt (by decide) (by omega)]
    refine ⟨fun y => absurd y z, fun _ => ?_⟩
    have e1 : fbt m = (1 : Int64) <<< (Int32.toInt64 (Int32.ofNat (m - 1)) &&& 63) := if_pos (by omega)
    have e2 : sbt m = 0 := if_pos (by omega)
    rw [e1, e2] at go
    exact go
/-- all methods -/
theorem st_99 (S : SkR C W a0 σ) (kk : ∀ τ, SkF σ τ → τ.i = σ.i → ClZ (mnS W) τ → FtZ W (fiZ W) τ → K (.inl none) τ) : ∀ r m τ, W.2.2.2.length + 1 - m = r → 1 ≤ m → m ≤ W.2.2.2.length + 1 → SkF σ τ → τ.i = σ.i → ClZ (fun c m' => decide (m' < m) && mnS W c m') τ → FtZ W (fun p k m' => decide (m' < m) && fiZ W p k m') τ → C_X11_takeStock_99 Z (d + 3) τ (Int32.ofNat m) K := by
  have l120 := S.2.2.2.2.1.2.1
  intro r
  induction r with
  | zero =>
    intro m τ hr h1 hm g gi hG hF
    have S1 := S.sk g
    refine T_X11_takeStock_99 S1.1 ?_
    rw [S1.2.2.2.2.1.1, oN_lt (by omega) (by omega)]
    refine ⟨fun _ => kk τ g gi (fun c q1 m' q2 q3 => ?_) (hF.cg (fun p k m' q1 q2 q3 q4 => ?_)), fun z => absurd (by omega) z⟩
    · rw [hG c q1 m' q2 q3]
      dsimp only
      by_cases y : m' < m
      · rw [decide_eq_true y, Bool.true_and]
      · have : mnS W c m' = false := by
          unfold mnS
          rw [decide_eq_false (show ¬ m' < W.2.2.2.length + 1 by omega)]
          rfl
        rw [this, Bool.and_false]
    · by_cases y : m' < m
      · rw [decide_eq_true y, Bool.true_and]
      · have : fiZ W p k m' = false := by
          unfold fiZ
          rw [decide_eq_false (show ¬ m' < W.2.2.2.length + 1 by omega)]
          rfl
        rw [this, Bool.and_false]
  | succ r ih =>
    intro m τ hr h1 hm g gi hG hF
    have S1 := S.sk g
    have hM := S1.2.2.2.2.1
    obtain ⟨x, hx⟩ : ∃ x, W.2.2.2[m - 1]? = some x := ⟨_, List.getElem?_eq_getElem (by omega)⟩
    obtain ⟨q, w1, w2, -⟩ := S.2.2.2.2.2.1.2.2 x (List.mem_of_getElem? hx)
    have w1 : x.1.1 = (q : Int) := w1
    have t1 := (hM.2.2.2.2 (m - 1) x hx).1
    rw [show m - 1 + 1 = m by omega] at t1
    have cl24 := S.2.2.2.1.1
    have gn : gnW W.2.2.2 m = if x.2 = true then 1 else 0 := by
      unfold gnW
      rw [hx]
    have mc : mcW W.2.2.2 m = q := by
      unfold mcW
      rw [hx]
      show x.1.1.toNat = q
      omega
    refine T_X11_takeStock_99 S1.1 ?_
    rw [hM.1, oN_lt (by omega) (by omega)]
    refine ⟨fun z => absurd z (by omega), fun _ => T_X5_isThere_0 S1.1 ?_⟩
    rw [hM.1, show (1 : Int32) = Int32.ofNat 1 from rfl, oN_lt (by omega) (by decide), oN_lt (by omega) (by omega), oN_t (by omega)]
    refine ⟨fun z => absurd z (by omega), fun _ => ⟨fun z => absurd z (by omega), fun _ => ⟨ib_oN (by omega) (by omega), fun z => ⟨fun _ => ?_, fun y => absurd rfl y⟩, fun z => ⟨fun y => absurd y (by decide), fun _ => ?_⟩⟩⟩⟩
    · -- it is gone
      have hgx : x.2 = true := by
        cases h : x.2 with
        | true => rfl
        | false =>
          exfalso
          rw [t1, h, if_neg (by decide), w1] at z
          have z : Int32.ofNat q < Int32.ofNat 0 := z
          rw [oN_lt (by omega) (by decide)] at z
          omega
      rw [hgx, if_pos rfl] at gn
      have gne : decide (gnW W.2.2.2 m = 0) = false := by
        rw [gn]
        rfl
      rw [show Int32.ofNat m + Int32.ofNat 1 = Int32.ofNat (m + 1) from oN_add m 1]
      refine ih (m + 1) τ (by omega) (by omega) (by omega) g gi (fun c q1 m' q2 q3 => ?_) (hF.cg (fun p k m' q1 q2 q3 q4 => ?_))
      · rw [hG c q1 m' q2 q3]
        dsimp only
        by_cases e : m' = m
        · subst e
          have : mnS W c m' = false := by
            unfold mnS
            rw [gne, Bool.and_false, Bool.false_and]
          rw [this, Bool.and_false, Bool.and_false]
        · have e2 : decide (m' < m) = decide (m' < m + 1) := decide_eq_decide.mpr (by omega)
          rw [e2]
      · by_cases e : m' = m
        · subst e
          have : fiZ W p k m' = false := by
            unfold fiZ
            rw [gne, Bool.and_false, Bool.false_and, Bool.false_and]
          rw [this, Bool.and_false, Bool.and_false]
        · have e2 : decide (m' < m) = decide (m' < m + 1) := decide_eq_decide.mpr (by omega)
          rw [e2]
    · have hgx : x.2 = false := by
        cases h : x.2 with
        | false => rfl
        | true =>
          rw [t1, h, if_pos rfl] at z
          exact absurd (by decide) z
      rw [hgx, if_neg (by decide)] at gn
      refine cl_stockOf ⟨h1, by omega⟩ S1 hx hgx w1 hG hF (fun τ2 g2 gi2 hG2 hF2 => ?_)
      show C_X11_takeStock_99 Z (d + 3) τ2 (Int32.ofNat m + Int32.ofNat 1) K
      rw [oN_add]
      refine ih (m + 1) τ2 (by omega) (by omega) (by omega) (g.tr g2) (gi2.trans gi) (fun c q1 m' q2 q3 => ?_) (hF2.cg (fun p k m' q1 q2 q3 q4 => ?_))
      · rw [hG2 c q1 m' q2 q3]
        dsimp only
        by_cases e : m' = m
        · subst e
          have : mnS W c m' = decide (c = q) := by
            unfold mnS
            rw [decide_eq_true (show m' < W.2.2.2.length + 1 by omega), gn, mc]
            simp [eq_comm]
          rw [this, decide_eq_false (show ¬ m' < m' by omega), decide_eq_true (show m' < m' + 1 by omega), decide_eq_true (rfl : m' = m')]
          simp
        · have e2 : decide (m' < m) = decide (m' < m + 1) := decide_eq_decide.mpr (by omega)
          rw [decide_eq_false e, e2]
          simp
      · by_cases e : m' = m
        · subst e
          have : fiZ W p k m' = (decide (p < plW W.2.1 q) && decide (kdW W.2.2.2 m' p ∈ rwW W.1 1 k)) := by
            unfold fiZ
            rw [decide_eq_true (show m' < W.2.2.2.length + 1 by omega), gn, mc]
            simp
          rw [this, decide_eq_false (show ¬ m' < m' by omega), decide_eq_true (show m' < m' + 1 by omega), decide_eq_true (rfl : m' = m')]
          simp
        · have e2 : decide (m' < m) = decide (m' < m + 1) := decide_eq_decide.mpr (by omega)
          rw [decide_eq_false e, e2]
          simp
end ST3

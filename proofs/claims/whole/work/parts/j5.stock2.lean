/-! THE CLASS: taking stock of a method -/
section ST2
variable {Z : zT} {d : Nat} {C : Nat × Nat × Nat × Nat} {W : Wld} {σ τ υ : Sg} {K : kS} {a0 : Nat}
abbrev fbt (m : Nat) : Int64 := if m ≤ 64 then (1 : Int64) <<< (Int32.toInt64 (Int32.ofNat (m - 1)) &&& 63) else 0
abbrev sbt (m : Nat) : Int64 := if m ≤ 64 then 0 else (1 : Int64) <<< (Int32.toInt64 (Int32.ofNat (m - 65)) &&& 63)
/-- the sets by places and kinds, as f says -/
def FtZ (W : Wld) (f : Nat → Nat → Nat → Bool) (σ : Sg) : Prop := ∀ p k, p < 3 → k < W.1.length → ∀ m, 1 ≤ m → m ≤ 128 → pb (σ.l 36 (p * 24 + k), σ.l 37 (p * 24 + k)) m = f p k m
theorem FtZ.cg {f g : Nat → Nat → Nat → Bool} (h : FtZ W f σ) (e : ∀ p k m, p < 3 → k < W.1.length → 1 ≤ m → m ≤ 128 → g p k m = f p k m) : FtZ W g σ := fun p k q1 q2 m q3 q4 => (h p k q1 q2 m q3 q4).trans (e p k m q1 q2 q3 q4).symm
/-- a frame that keeps the sets by calls -/
def Sk2 (σ τ : Sg) : Prop := SkF σ τ ∧ τ.i = σ.i ∧ τ.l 34 = σ.l 34 ∧ τ.l 35 = σ.l 35
theorem Sk2.refl (σ : Sg) : Sk2 σ σ := ⟨SkF.refl _, rfl, rfl, rfl⟩
theorem Sk2.tr (h : Sk2 σ τ) (g : Sk2 τ υ) : Sk2 σ υ := ⟨h.1.tr g.1, g.2.1.trans h.2.1, g.2.2.1.trans h.2.2.1, g.2.2.2.trans h.2.2.2⟩
theorem sk2_w {i j : Nat} {x y : Int64} : Sk2 σ ((σ.wl 36 i x).wl 37 j y) := ⟨⟨rfl, rfl, fun _ _ _ _ => rfl, fun a k q => (wl_ne (σ := σ.wl 36 i x) (by omega)).trans (wl_ne (by omega))⟩, rfl, funext fun k => (wl_ne (σ := σ.wl 36 i x) (by omega)).trans (wl_ne (by omega)), funext fun k => (wl_ne (σ := σ.wl 36 i x) (by omega)).trans (wl_ne (by omega))⟩
/-- the kinds at one place -/
theorem so_86 {m c p y : Nat} {f : Nat → Nat → Nat → Bool} (hm : 1 ≤ m ∧ m ≤ 120) (hp : p < 3) (hc : c < 24) (hy : y < 24) (S : SkR C W a0 σ) (h15 : σ.i 15 (3 * m + p) = Int32.ofNat y) (kk : ∀ τ, Sk2 σ τ → FtZ W (fun p' k' m' => f p' k' m' || (decide (m' = m) && decide (p' = p) && decide (y ∈ rwW W.1 1 k'))) τ → C_X11_takeStockOf_71 Z (d + 2) τ (Int32.ofNat m) (fbt m) (sbt m) (Int32.ofNat c) (Int32.ofNat (p + 1)) K) : ∀ r k τ, W.1.length - k = r → k ≤ W.1.length → Sk2 σ τ → FtZ W (fun p' k' m' => f p' k' m' || (decide (m' = m) && decide (p' = p) && decide (k' < k) && decide (y ∈ rwW W.1 1 k'))) τ → C_X11_takeStockOf_86 Z (d + 2) τ (Int32.ofNat m) (fbt m) (sbt m) (Int32.ofNat c) (Int32.ofNat p) (Int32.ofNat k) K := by
  have l24 := S.2.1.2.1
  intro r
  induction r with
  | zero =>
    intro k τ hr hk g hF
    have S1 := S.sk g.1
    refine T_X11_takeStockOf_86 S1.1 ?_
    rw [S1.2.1.1, oN_le (by omega) (by omega), oN_1]
    refine ⟨fun _ => kk τ g (hF.cg (fun p' k' m' q1 q2 q3 q4 => ?_)), fun z => absurd (by omega) z⟩
    rw [decide_eq_true (show k' < k by omega), Bool.and_true]
  | succ r ih =>
    intro k τ hr hk g hF
    have S1 := S.sk g.1
    have h15' : τ.i 15 (3 * m + p) = Int32.ofNat y := by
      rw [g.2.1]
      exact h15
    refine T_X11_takeStockOf_86 S1.1 ?_
    rw [S1.2.1.1, oN_le (by omega) (by omega), show (3 : Int32) = Int32.ofNat 3 from rfl, oN_mul, oN_add, oN_t (by omega), show m * 3 + p = 3 * m + p by omega, h15', oN_1]
    refine ⟨fun z => absurd z (by omega), fun _ => ⟨ib_oN (by omega) (by omega), cl_below S1 (by omega) hy ?_⟩⟩
    by_cases yb : y ∈ rwW W.1 1 k
    · rw [if_pos yb]
      refine ⟨fun z => absurd z (by decide), fun _ => ?_⟩
      rw [show (24 : Int32) = Int32.ofNat 24 from rfl, oN_mul, oN_add, oN_t (by omega), oN_1]
      refine ⟨ib_oN (by omega) (by omega), ib_oN (by omega) (by omega), ib_oN (by omega) (by omega), ib_oN (by omega) (by omega), ?_⟩
      refine ih (k + 1) _ (by omega) (by omega) (g.tr sk2_w) (fun p' k' q1 q2 m' q3 q4 => ?_)
      by_cases e : p' = p ∧ k' = k
      · obtain ⟨e1, e2⟩ := e
        subst e1 e2
        have x1 : ((τ.wl 36 (p' * 24 + k') (τ.l 36 (p' * 24 + k') ||| fbt m)).wl 37 (p' * 24 + k') (τ.l 37 (p' * 24 + k') ||| sbt m)).l 36 (p' * 24 + k') = τ.l 36 (p' * 24 + k') ||| fbt m := (wl_ne (by omega)).trans wl_eq
        have x2 : ((τ.wl 36 (p' * 24 + k') (τ.l 36 (p' * 24 + k') ||| fbt m)).wl 37 (p' * 24 + k') (τ.l 37 (p' * 24 + k') ||| sbt m)).l 37 (p' * 24 + k') = τ.l 37 (p' * 24 + k') ||| sbt m := wl_eq
        rw [x1, x2, pb_or hm ⟨q3, q4⟩, hF p' k' q1 q2 m' q3 q4]
        dsimp only
        rw [decide_eq_true yb, decide_eq_true (rfl : p' = p'), decide_eq_false (show ¬ k' < k' by omega), decide_eq_true (show k' < k' + 1 by omega)]
        simp
      · have ne : p' * 24 + k' ≠ p * 24 + k := by
          intro q
          exact e (by omega)
        have x1 : ((τ.wl 36 (p * 24 + k) (τ.l 36 (p * 24 + k) ||| fbt m)).wl 37 (p * 24 + k) (τ.l 37 (p * 24 + k) ||| sbt m)).l 36 (p' * 24 + k') = τ.l 36 (p' * 24 + k') := (wl_ne (by omega)).trans (wl_ne (by omega))
        have x2 : ((τ.wl 36 (p * 24 + k) (τ.l 36 (p * 24 + k) ||| fbt m)).wl 37 (p * 24 + k) (τ.l 37 (p * 24 + k) ||| sbt m)).l 37 (p' * 24 + k') = τ.l 37 (p' * 24 + k') := (wl_ne (by omega)).trans (wl_ne (by omega))
        rw [x1, x2, hF p' k' q1 q2 m' q3 q4]
        dsimp only
        by_cases ep : p' = p
        · have : decide (k' < k + 1) = decide (k' < k) := decide_eq_decide.mpr (by omega)
          rw [this]
        · rw [decide_eq_false ep]
          simp
    · rw [if_neg yb]
      refine ⟨fun _ => ?_, fun z => absurd rfl z⟩
      rw [oN_1]
      refine ih (k + 1) τ (by omega) (by omega) g (hF.cg (fun p' k' m' q1 q2 q3 q4 => ?_))
      by_cases e : k' = k
      · subst e
        rw [decide_eq_false yb]
        simp
      · have : decide (k' < k + 1) = decide (k' < k) := decide_eq_decide.mpr (by omega)
        rw [this]
/-- all places -/
theorem so_71 {m c pl : Nat} {ys : Nat → Nat} {f : Nat → Nat → Nat → Bool} (hm : 1 ≤ m ∧ m ≤ 120) (hc : c < 24) (S : SkR C W a0 σ) (h31 : σ.i 31 c = Int32.ofNat pl) (hpl : pl ≤ 3) (hy : ∀ p, p < pl → ys p < 24 ∧ σ.i 15 (3 * m + p) = Int32.ofNat (ys p)) (kk : ∀ τ, Sk2 σ τ → FtZ W (fun p' k' m' => f p' k' m' || (decide (m' = m) && decide (p' < pl) && decide (ys p' ∈ rwW W.1 1 k'))) τ → K (.inl none) τ) : ∀ r p τ, pl - p = r → p ≤ pl → Sk2 σ τ → FtZ W (fun p' k' m' => f p' k' m' || (decide (m' = m) && decide (p' < p) && decide (ys p' ∈ rwW W.1 1 k'))) τ → C_X11_takeStockOf_71 Z (d + 2) τ (Int32.ofNat m) (fbt m) (sbt m) (Int32.ofNat c) (Int32.ofNat p) K := by
  intro r
  induction r with
  | zero =>
    intro p τ hr hp g hF
    have S1 := S.sk g.1
    have h31' : τ.i 31 c = Int32.ofNat pl := by
      rw [g.2.1]
      exact h31
    refine T_X11_takeStockOf_71 S1.1 ⟨ib_oN hc (by decide), ?_⟩
    rw [oN_t (by omega), h31', oN_le (by omega) (by omega)]
    refine ⟨fun _ => kk τ g (hF.cg (fun p' k' m' q1 q2 q3 q4 => ?_)), fun z => absurd (by omega) z⟩
    rw [show pl = p by omega]
  | succ r ih =>
    intro p τ hr hp g hF
    have S1 := S.sk g.1
    have h31' : τ.i 31 c = Int32.ofNat pl := by
      rw [g.2.1]
      exact h31
    obtain ⟨y1, y2⟩ := hy p (by omega)
    refine T_X11_takeStockOf_71 S1.1 ⟨ib_oN hc (by decide), ?_⟩
    rw [oN_t (by omega), h31', oN_le (by omega) (by omega)]
    refine ⟨fun z => absurd z (by omega), fun _ => ?_⟩
    refine so_86 (σ := τ) (y := ys p) (f := fun p' k' m' => f p' k' m' || (decide (m' = m) && decide (p' < p) && decide (ys p' ∈ rwW W.1 1 k'))) hm (by omega) hc y1 S1 (by rw [g.2.1]; exact y2) (fun τ2 g2 hF2 => ih (p + 1) τ2 (by omega) (by omega) (g.tr g2) (hF2.cg (fun p' k' m' q1 q2 q3 q4 => ?_))) _ 0 τ rfl (Nat.zero_le _) (Sk2.refl _) (hF.cg (fun p' k' m' q1 q2 q3 q4 => ?_))
    · by_cases e : p' = p
      · subst e
        rw [decide_eq_true (show p' < p' + 1 by omega), decide_eq_false (show ¬ p' < p' by omega), decide_eq_true (rfl : p' = p')]
        simp
      · have : decide (p' < p + 1) = decide (p' < p) := decide_eq_decide.mpr (by omega)
        rw [this, decide_eq_false e]
        simp
    · rw [decide_eq_false (show ¬ k' < 0 by omega)]
      simp
end ST2

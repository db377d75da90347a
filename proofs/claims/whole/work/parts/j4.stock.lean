/-! THE CLASS: taking stock -/
/-- method m takes kind k at place p -/
def fiZ (W : Wld) (p k m : Nat) : Bool := decide (m < W.2.2.2.length + 1) && decide (gnW W.2.2.2 m = 0) && decide (p < plW W.2.1 (mcW W.2.2.2 m)) && decide (kdW W.2.2.2 m p ∈ rwW W.1 1 k)
/-- the stock: makeable kinds, methods by calls, methods by places and kinds -/
def StS (W : Wld) (σ : Sg) : Prop := (σ.i 1 14 = Int32.ofNat (mkW W.1).length ∧ ∀ (i : Nat) k, (mkW W.1)[i]? = some k → σ.i 38 i = Int32.ofNat k) ∧ (∀ c, c < 24 → ∀ m, 1 ≤ m → m ≤ 128 → pb (σ.l 34 c, σ.l 35 c) m = mnS W c m) ∧ ∀ p k, p < 3 → k < W.1.length → ∀ m, 1 ≤ m → m ≤ 128 → pb (σ.l 36 (p * 24 + k), σ.l 37 (p * 24 + k)) m = fiZ W p k m
/-- what taking stock writes -/
def SkF (σ τ : Sg) : Prop := τ.sh = σ.sh ∧ τ.r = σ.r ∧ (∀ a j, ¬ (a = 1 ∧ (j = 14 ∨ j = 16)) → a ≠ 38 → τ.i a j = σ.i a j) ∧ ∀ a j, ¬ (34 ≤ a ∧ a ≤ 37) → τ.l a j = σ.l a j
section STK
variable {Z : zT} {d : Nat} {C : Nat × Nat × Nat × Nat} {W : Wld} {σ τ υ : Sg} {K : kS} {a0 : Nat}
theorem SkF.refl (σ : Sg) : SkF σ σ := ⟨rfl, rfl, fun _ _ _ _ => rfl, fun _ _ _ => rfl⟩
theorem SkF.tr (h : SkF σ τ) (g : SkF τ υ) : SkF σ υ := ⟨g.1.trans h.1, g.2.1.trans h.2.1, fun a j q1 q2 => (g.2.2.1 a j q1 q2).trans (h.2.2.1 a j q1 q2), fun a j q => (g.2.2.2 a j q).trans (h.2.2.2 a j q)⟩
theorem cl_fillL {a n2 : Nat} {v : Int64} (F : FX ΦC σ.sh σ.r) (hs : σ.sh[a]? = some (Sh.arr 1 n2)) (hn : n2 < 1000000) (k : ∀ τ, τ.sh = σ.sh → τ.i = σ.i → τ.r = σ.r → (∀ b, b ≠ a → τ.l b = σ.l b) → (∀ j, j < n2 → τ.l a j = v) → K (.inl none) τ) : C_J7_fill_d0a16_0 Z (d + 1) σ a v K := by
  have go : ∀ m j τ, n2 - j = m → j ≤ n2 → τ.sh = σ.sh → τ.i = σ.i → τ.r = σ.r → (∀ b, b ≠ a → τ.l b = σ.l b) → (∀ i, i < j → τ.l a i = v) → C_J7_fill_d0a16_6 Z (d + 1) τ a v (Int32.ofNat j) (Int32.ofNat n2) K := by
    intro m
    induction m with
    | zero =>
      intro j τ hm hj g1 g2 g3 g4 g5
      refine T_J7_fill_d0a16_6 (by rw [g1, g3]; exact F) ?_
      rw [oN_le (by omega) (by omega)]
      exact ⟨fun _ => k τ g1 g2 g3 g4 (fun i hi => g5 i (by omega)), fun z => absurd (by omega) z⟩
    | succ m ih =>
      intro j τ hm hj g1 g2 g3 g4 g5
      refine T_J7_fill_d0a16_6 (by rw [g1, g3]; exact F) ?_
      rw [oN_le (by omega) (by omega)]
      refine ⟨fun z => absurd z (by omega), fun _ => ⟨n2, by rw [g1]; exact hs, ib_oN (by omega) (by omega), ?_⟩⟩
      rw [oN_1, oN_t (by omega)]
      refine ih (j + 1) _ (by omega) (by omega) g1 g2 g3 (fun b hb => (funext fun i => wl_ne (by omega)).trans (g4 b hb)) (fun i hi => ?_)
      by_cases e : i = j
      · subst e
        exact wl_eq
      · exact (wl_ne (by omega)).trans (g5 i (by omega))
  exact T_J7_fill_d0a16_0 F ⟨n2, hs, go n2 0 σ rfl (Nat.zero_le _) rfl rfl rfl (fun _ _ => rfl) (fun i hi => by omega)⟩
/-- the bit of method m -/
theorem pb_or {x y : Int64} {m m' : Nat} (hm : 1 ≤ m ∧ m ≤ 120) (hm' : 1 ≤ m' ∧ m' ≤ 128) : pb (x ||| (if m ≤ 64 then (1 : Int64) <<< (Int32.toInt64 (Int32.ofNat (m - 1)) &&& 63) else 0), y ||| (if m ≤ 64 then 0 else (1 : Int64) <<< (Int32.toInt64 (Int32.ofNat (m - 65)) &&& 63))) m' = (pb (x, y) m' || decide (m' = m)) := by
  unfold pb
  by_cases h1 : (m' - 1) / 64 = 0
  · rw [if_pos h1, if_pos h1, tb_or]
    congr 1
    by_cases h2 : m ≤ 64
    · rw [if_pos h2, tb_one (by omega) (by omega)]
      exact decide_eq_decide.mpr (by omega)
    · rw [if_neg h2, tb_0]
      exact (decide_eq_false (by omega)).symm
  · rw [if_neg h1, if_neg h1, tb_or]
    congr 1
    by_cases h2 : m ≤ 64
    · rw [if_pos h2, tb_0]
      exact (decide_eq_false (by omega)).symm
    · rw [if_neg h2, tb_one (by omega) (by omega)]
      exact decide_eq_decide.mpr (by omega)
/-- what taking stock reads -/
def SkR (C : Nat × Nat × Nat × Nat) (W : Wld) (a0 : Nat) (σ : Sg) : Prop := FX ΦC σ.sh σ.r ∧ (σ.i 28 0 = Int32.ofNat W.1.length ∧ W.1.length ≤ 24 ∧ ∀ (k : Nat) x, W.1[k]? = some x → σ.i 3 k = if x.2.1 = true then 1 else 0) ∧ WK W.1 σ ∧ (W.2.1.length ≤ 24 ∧ ∀ (k : Nat) x, W.2.1[k]? = some x → σ.i 31 k = Int32.ofNat x.2.1 ∧ (1 ≤ x.2.1 ∧ x.2.1 ≤ 3)) ∧ WMc C a0 W.2.2.2 σ ∧ WfW W ∧ ((C.2.1 = 25 ∨ 102 ≤ C.2.1) ∧ (C.2.2.1 = 26 ∨ 102 ≤ C.2.2.1) ∧ (C.2.2.2 = 27 ∨ 102 ≤ C.2.2.2))
theorem SkR.sk (h : SkR C W a0 σ) (g : SkF σ τ) : SkR C W a0 τ := by
  obtain ⟨f, ⟨k1, k2, k3⟩, w, ⟨c1, c2⟩, m, wf, y0, y1, y2⟩ := h
  have gi : ∀ a j, a ≠ 1 → a ≠ 38 → τ.i a j = σ.i a j := fun a j q1 q2 => g.2.2.1 a j (by omega) q2
  refine ⟨by rw [g.1, g.2.1]; exact f, ⟨(gi 28 0 (by omega) (by omega)).trans k1, k2, fun k x hx => (gi 3 k (by omega) (by omega)).trans (k3 k x hx)⟩, w.keep k2 (fun k _ => ⟨gi 4 k (by omega) (by omega), gi 5 k (by omega) (by omega), fun w _ i _ => ⟨gi 7 _ (by omega) (by omega), gi 8 _ (by omega) (by omega)⟩⟩), ⟨c1, fun k x hx => ⟨(gi 31 k (by omega) (by omega)).trans (c2 k x hx).1, (c2 k x hx).2⟩⟩, m.keep (gi 10 0 (by omega) (by omega)) ((gi 24 3 (by omega) (by omega)).trans m.2.2.1) ⟨Nat.le_refl _, m.2.2.2.1.2⟩ (fun a j q => gi a j (by unfold mtI at q; omega) (by unfold mtI at q; omega)) (fun a j q => g.2.2.2 a j (by unfold mtL at q; omega)) (fun j _ => ⟨gi _ j (by omega) (by omega), gi _ j (by omega) (by omega), gi _ j (by omega) (by omega)⟩), wf, y0, y1, y2⟩
/-- kinds below -/
theorem cl_below {k y : Nat} (h : SkR C W a0 σ) (hk : k < W.1.length) (hy : y < 24) (kk : K (.inl (some (.int (if y ∈ rwW W.1 1 k then 1 else 0)))) σ) : C_X2_isBelow_0 Z (d + 1) σ (Int32.ofNat k) (Int32.ofNat y) K := by
  have l24 := h.2.1.2.1
  obtain ⟨-, -, bt⟩ := rw_at h.2.2.1 hk (w := 0) (by decide)
  have mm := ((rw_ok h.2.2.1 hk (w := 1) (by decide)).2.2.1 y).2
  have bb := bt_t bt (y := y) (by omega)
  refine T_X2_isBelow_0 h.1 ⟨ib_oN (by omega) (by omega), ?_⟩
  rw [oN_t (by omega)]
  refine ⟨fun z => ?_, fun z => ?_⟩
  · rw [if_neg (fun q => bb.mp z (mm.mp q))] at kk
    exact kk
  · rw [if_pos (mm.mpr (Classical.byContradiction fun q => z (bb.mpr q)))] at kk
    exact kk
end STK

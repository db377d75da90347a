/-! THE CLASS: a call read, to its last signs -/
section CA
variable {Z : zT} {d : Nat} {t : Nat → Int32} {n N : Nat} {B : Nat × Nat × Nat × Nat × Nat} {C : Nat × Nat × Nat × Nat} {W : Wld} {σ τ υ : Sg} {K : kS} {vs : List (List Int32)} {R : HR}
theorem cl_ca63 {l1 l2 : Int32} (hB : HB t n N B C W σ) (h : BdS t n N vs R σ) (k : ∀ τ (s2 : Int32), HdF σ τ → BdS t n N vs (hrg t n 34 38 (htk t n 5 R)) τ → (39 ≤ hsg t n (hrg t n 34 38 (htk t n 5 R)) ∧ hsg t n (hrg t n 34 38 (htk t n 5 R)) ≤ 41 → s2 = Int32.ofNat (hsg t n (hrg t n 34 38 (htk t n 5 R)))) → (¬ (39 ≤ hsg t n (hrg t n 34 38 (htk t n 5 R)) ∧ hsg t n (hrg t n 34 38 (htk t n 5 R)) ≤ 41) → s2 = -1) → C_X7_readCall_142 Z (d + 2) τ l1 l2 (Int32.ofNat (hsg t n (htk t n 5 R)) - 34) (Int32.ofNat (hsg t n (hrg t n 34 38 (htk t n 5 R))) - 39) s2 K) : C_X7_readCall_63 Z (d + 2) σ l1 l2 K := by
  refine T_X7_readCall_63 hB.1 (h_take (y := 5) (by decide) hB h (fun τ1 f1 b1 => ?_))
  have hB1 := hB.hd f1
  have tb := hsg_b (t := t) (n := n) (htk t n 5 R)
  have go : ∀ s1 : Int32, (34 ≤ hsg t n (htk t n 5 R) ∧ hsg t n (htk t n 5 R) ≤ 38 → s1 = Int32.ofNat (hsg t n (htk t n 5 R))) → (¬ (34 ≤ hsg t n (htk t n 5 R) ∧ hsg t n (htk t n 5 R) ≤ 38) → s1 = -1) → C_X7_readCall_103 Z (d + 2) τ1 l1 l2 (Int32.ofNat (hsg t n (htk t n 5 R)) - 34) s1 K := fun s1 q1 q0 => cl_ca103 q1 q0 hB1 b1 (fun τ2 s2 f2 b2 w1 w0 => k τ2 s2 (f1.tr f2) b2 w1 w0)
  refine h_sign hB1 b1 (h_sign hB1 b1 ?_)
  show (Int32.ofNat (hsg t n (htk t n 5 R)) < Int32.ofNat 34 → _) ∧ (¬ Int32.ofNat (hsg t n (htk t n 5 R)) < Int32.ofNat 34 → _)
  rw [oN_lt (by omega) (by decide)]
  refine ⟨fun z => T_X7_readCall_102 hB1.1 (go (-1) (fun y => absurd y (by omega)) (fun _ => rfl)), fun z => h_sign hB1 b1 ?_⟩
  show (Int32.ofNat 38 < Int32.ofNat (hsg t n (htk t n 5 R)) → _) ∧ (¬ Int32.ofNat 38 < Int32.ofNat (hsg t n (htk t n 5 R)) → _)
  rw [oN_lt (by decide) (by omega)]
  exact ⟨fun z2 => T_X7_readCall_102 hB1.1 (go (-1) (fun y => absurd y (by omega)) (fun _ => rfl)), fun z2 => h_sign hB1 b1 (go _ (fun _ => rfl) (fun y => absurd (by omega) y))⟩
/-- and its end: nothing, or one call more -/
theorem cl_ca142 {i j : Nat} {l3 l4 s2 : Int32} (h1 : 39 ≤ hsg t n R ∧ hsg t n R ≤ 41 → s2 = Int32.ofNat (hsg t n R)) (h0 : ¬ (39 ≤ hsg t n R ∧ hsg t n R ≤ 41) → s2 = -1) (hi : i ≤ N ∧ j ≤ N) (hB : HB t n N B C W σ) (h : BdS t n N vs R σ) (hlen : clI (htk t n 7 (hrg t n 39 41 R)) ≠ 0 → W.2.1.length < 24) (k0 : ∀ τ, clI (htk t n 7 (hrg t n 39 41 R)) = 0 → HdF σ τ → BdS t n N vs (htk t n 7 (hrg t n 39 41 R)) τ → K (.inl none) τ) (k1 : ∀ τ, clI (htk t n 7 (hrg t n 39 41 R)) ≠ 0 → HdF σ τ → BdS t n N vs (htk t n 7 (hrg t n 39 41 R)) τ → K (.inl none) ((((((τ.wi 31 W.2.1.length (Int64.toInt32 (hdS t n (sgP t n j)))).wi 32 W.2.1.length l3).wi 33 W.2.1.length l4).wl 29 (24 + W.2.1.length) (hdS t n (sgP t n i))).wl 30 (24 + W.2.1.length) (tlS t n (sgP t n i))).wi 28 1 (Int32.ofNat (W.2.1.length + 1)))) : C_X7_readCall_142 Z (d + 3) σ (Int32.ofNat i) (Int32.ofNat j) l3 l4 s2 K := by
  refine T_X7_readCall_142 hB.1 (h_rng (by decide) (by decide) h1 h0 hB h (fun τ1 f1 b1 => h_take (y := 7) (by decide) (hB.hd f1) b1 (fun τ2 f2 b2 => ?_)))
  have hB2 := (hB.hd f1).hd f2
  refine h_clean hB2 b2 ⟨fun z => k0 τ2 z (f1.tr f2) b2, fun z => ?_⟩
  have l24 := hlen z
  have hB2' := hB2
  obtain ⟨fx, sa, ss, ⟨nn, hN1⟩, -, -, -, ⟨c1, -⟩, -⟩ := hB2'
  have hc := sa.2.2.2.2.2.2.2.2.2
  rw [c1, oN_t (by omega)]
  refine ⟨_, sa.2.2.1.1, _, sa.2.2.1.2, ib_oN (by omega) (by omega), ib_oN (by omega) (by omega), ib_oN (by omega) (by omega), ib_oN (by omega) (by omega), _, sa.2.2.1.1, _, sa.2.2.1.2, ib_oN (by omega) (by omega), _, sa.2.2.2.1.1, _, sa.2.2.2.1.2, ib_oN (by omega) (by omega), ?_⟩
  rw [oN_t (by omega), oN_t (by omega), (ss.2.1 j hi.2).2.2.1, (ss.2.1 i hi.1).2.2.1, (ss.2.1 i hi.1).2.2.2]
  refine h_add (s := 1) (o := 24) (len := W.2.1.length) (most := 24) fx (by decide) xJ_0.2.1 xJ_1.2.1 ?_ l24 (by decide) (k1 τ2 z (f1.tr f2) b2)
  exact (wi_ne (by omega)).trans ((wi_ne (by omega)).trans ((wi_ne (by omega)).trans c1))
end CA

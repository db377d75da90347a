/-! THE REFERENCE: looks() -/
/-- who is left when the first j places of an order are known -/
def lkS (W : Wld) (c o : Nat) (k : Nat → Nat) (j0 m : Nat) : Bool := mnS W c m && (List.range j0).all fun j => fS W c (opP (plW W.2.1 c) o j) (k (opP (plW W.2.1 c) o j)) m
def lkM (W : Wld) (c o : Nat) (k : Nat → Nat) (j0 : Nat) : Bool := (List.range 128).any fun j => lkS W c o k j0 (j + 1) && (vrS W c (opP (plW W.2.1 c) o j0) (j + 1) && rsS W c o j0 (j + 1))
def lkT (W : Wld) (c o : Nat) (k : Nat → Nat) : Nat → Nat
  | 0 => 1
  | j + 1 => lkT W c o k j + if lkM W c o k j = true then 1 else 0
def thN (W : Wld) (c : Nat) : Nat := ((List.range (W.2.2.2.length + 1)).filter fun M => decide (1 ≤ M ∧ gnW W.2.2.2 M = 0 ∧ mcW W.2.2.2 M = c)).length
/-- how many looks a choice costs -/
noncomputable def loN (W : Wld) (c ch : Nat) (k : Nat → Nat) : Nat := if ch = 0 then thN W c else if ch = 1 then 1 else if ch = 2 then plW W.2.1 c + 1 else lkT W c (orN W c) k (plW W.2.1 c)
section LOOKS
variable {Z : zT} {d : Nat} {W : Wld} {σ : Sg} {K : kS} {c kA ch : Nat} {k : Nat → Nat}
theorem rf_looks (H : WkS W σ) (hc : c < W.2.1.length) (hmk : 1 ≤ (mkW W.1).length) (hO : OrR W σ) (hch : σ.i 0 82 = Int32.ofNat ch ∧ ch ≤ 3) (hA : ¬ (2121 ≤ kA ∧ kA ≤ 2125) ∧ kA ≠ 2128 ∧ kA ≠ 1931) (hs : σ.sh[kA]? = some (Sh.arr 0 3)) (hk : ∀ i, i < plW W.2.1 c → σ.i kA i = Int32.ofNat (k i) ∧ k i < W.1.length) (h : ∀ τ, LtF σ τ → OrR W τ → K (.inl (some (.int (Int32.ofNat (loN W c ch k))))) τ) : B_X23_looks_0 Z (d + 6) σ (Int32.ofNat c) kA K := by
  have hc24 := H.2.1.2.1.2.1
  have hk24 := H.2.1.1.2.1
  have hpl := pl_le H.2.1 hc
  obtain ⟨-, -, w3⟩ := wyW_ok H.2.1 hc
  have ibc : ib (Int32.ofNat c) 24 := ib_oN (by omega) (by decide)
  have hK := h σ (LtF.refl σ) hO
  refine S_X23_looks_0 H.1 ⟨ibc, fun z => ⟨fun y => ?_, fun y => ?_⟩, fun z => ⟨fun y => ?_, fun y => ⟨ibc, ?_⟩⟩⟩
  · rw [hch.1, show (2 : Int32) = Int32.ofNat 2 from rfl, oN_le (by omega) (by omega)] at z
    have y : ch ≠ 2 := fun q => y (by rw [hch.1, q]; rfl)
    have hol := orW_lt W c (ocN (plW W.2.1 c)) oc_b.1
    have hol : orN W c < ocN (plW W.2.1 c) := hol
    have ob := oc_b (pl := plW W.2.1 c)
    refine rf_order (d := d) H hc hmk hO (fun τ1 g1 O1 => ⟨ibc, ibc, ?_⟩)
    have hK2 : ∀ τ, LtF σ τ → OrR W τ → K (.inl (some (.int (Int32.ofNat (lkT W c (orN W c) k (plW W.2.1 c)))))) τ := fun τ g O => by
      have := h τ g O
      unfold loN at this
      rw [if_neg (by omega), if_neg (by omega), if_neg y] at this
      exact this
    rw [oN_t (by omega), w3]
    have loop : ∀ r j (p q : Int64) τ, plW W.2.1 c - j = r → j ≤ plW W.2.1 c → LtF σ τ → OrR W τ → (∀ m, 1 ≤ m → m ≤ 128 → pb (p, q) m = lkS W c (orN W c) k j m) → B_X23_looks_81 Z (d + 6) τ (Int32.ofNat c) kA (Int32.ofNat (plW W.2.1 c)) (Int32.ofNat (orN W c)) (Int32.ofNat (lkT W c (orN W c) k j)) p q (Int32.ofNat j) K := by
      intro r
      induction r with
      | zero =>
        intro j p q τ hr hj g O _
        have e : j = plW W.2.1 c := by omega
        subst e
        exact S_X23_looks_81 (g.fx H.1) ⟨fun _ => hK2 τ g O, fun w => absurd (Int32.le_refl _) w⟩
      | succ r ih =>
        intro j p q τ hr hj g O hpq
        have hjl : j < plW W.2.1 c := by omega
        have Hτ := H.lt g
        refine S_X23_looks_81 Hτ.1 ⟨fun w => ?_, fun _ => ?_⟩
        · exfalso
          rw [oN_le (by omega) (by omega)] at w
          omega
        · refine rf_matter (d := d + 3) Hτ hc hmk hol hjl (fun τ2 g2 M2 => ?_)
          have gl := g.tr g2.lt
          have H2 := H.lt gl
          have O2 : OrR W τ2 := fun c' hc' => by
            rw [g2.2.2.1]
            exact O c' hc'
          have hoj := opP_lt hpl hol hjl
          have mat : (p &&& τ2.l 0 64 = 0 ∧ q &&& τ2.l 0 65 = 0) ↔ lkM W c (orN W c) k j = false := by
            have e := pb_0 (p := anP (p, q) (τ2.l 0 64, τ2.l 0 65))
            have e : ((p &&& τ2.l 0 64 = 0 ∧ q &&& τ2.l 0 65 = 0) ↔ ∀ m, 1 ≤ m → m ≤ 128 → pb (anP (p, q) (τ2.l 0 64, τ2.l 0 65)) m = false) := e
            rw [e]
            unfold lkM
            rw [List.any_eq_false]
            constructor
            · intro w j2 hj2
              have hj3 := List.mem_range.mp hj2
              have := w (j2 + 1) (by omega) (by omega)
              rw [pb_an, hpq (j2 + 1) (by omega) (by omega), M2.1 (j2 + 1) (by omega) (by omega)] at this
              rw [this]
              decide
            · intro w m m1 m2
              have hm : m - 1 < 128 := by omega
              have := w (m - 1) (List.mem_range.mpr hm)
              rw [show m - 1 + 1 = m by omega] at this
              rw [pb_an, hpq m m1 m2, M2.1 m m1 m2]
              exact Bool.eq_false_iff.mpr this
          have ek : τ2.i kA = σ.i kA := gl.2.2.1 kA hA.1 hA.2.1 hA.2.2
          obtain ⟨k1, k2⟩ := hk _ hoj
          have ibp : ib (Int32.ofNat (opP (plW W.2.1 c) (orN W c) j)) 3 := ib_oN (by omega) (by decide)
          have ibk : ib (τ2.i kA (Int32.ofNat (opP (plW W.2.1 c) (orN W c) j)).toNatClampNeg) 24 := by
            rw [oN_t (by omega), ek, k1]
            exact ib_oN (by omega) (by decide)
          have p123 : ∀ n : Nat, n = lkT W c (orN W c) k (j + 1) → B_X23_looks_123 Z (d + 6) τ2 (Int32.ofNat c) kA (Int32.ofNat (plW W.2.1 c)) (Int32.ofNat (orN W c)) (Int32.ofNat n) p q (Int32.ofNat j) K := by
            rintro n rfl
            refine S_X23_looks_123 H2.1 (rf_placeO (d := d + 4) H2.1 hpl hol hjl ⟨ibc, ibp, 3, by rw [gl.1]; exact hs, ibp, ibk, ibc, ibp, ibp, ibk, ?_⟩)
            rw [oN_t (by omega), oN_t (by omega), ek, k1, oN_t (by omega), oN_1]
            refine ih (j + 1) _ _ τ2 (by omega) (by omega) gl O2 (fun m m1 m2 => ?_)
            have e1 := pb_an (p, q) (fpr τ2 c (opP (plW W.2.1 c) (orN W c) j) (k (opP (plW W.2.1 c) (orN W c) j))) m
            refine e1.trans ?_
            rw [hpq m m1 m2, H2.fit hc (by omega) k2 m1 m2]
            unfold lkS
            rw [List.range_succ, List.all_append, Bool.and_assoc]
            congr 2
            simp
          have p120 : lkM W c (orN W c) k j = true → B_X23_looks_120 Z (d + 6) τ2 (Int32.ofNat c) kA (Int32.ofNat (plW W.2.1 c)) (Int32.ofNat (orN W c)) (Int32.ofNat (lkT W c (orN W c) k j)) p q (Int32.ofNat j) K := by
            intro hm
            refine S_X23_looks_120 H2.1 ?_
            rw [oN_1]
            exact p123 _ (by rw [lkT, if_pos hm])
          refine ⟨fun w => p120 ?_, fun w => ⟨fun w2 => p123 _ ?_, fun w2 => p120 ?_⟩⟩
          · rw [cmp_0] at w
            cases qm : lkM W c (orN W c) k j with
            | true => rfl
            | false => exact absurd (mat.mpr qm).1 w
          · rw [cmp_0] at w w2
            rw [lkT, if_neg (by rw [mat.mp ⟨w, w2⟩]; decide)]
            rfl
          · rw [cmp_0] at w2
            cases qm : lkM W c (orN W c) k j with
            | true => rfl
            | false => exact absurd (mat.mpr qm).2 w2
    have H1 := H.lt g1
    refine loop _ 0 _ _ τ1 rfl (Nat.zero_le _) g1 O1 (fun m m1 m2 => ?_)
    rw [H1.mine hc m1 m2]
    unfold lkS
    rw [List.range_zero, List.all_nil, Bool.and_true]
  · rw [hch.1, show (2 : Int32) = Int32.ofNat 2 from rfl, oN_eq (by omega) (by omega)] at y
    unfold loN at hK
    rw [if_neg (by omega), if_neg (by omega), if_pos y] at hK
    rw [oN_t (by omega), w3, oN_1]
    exact hK
  · rw [hch.1, show (2 : Int32) = Int32.ofNat 2 from rfl, oN_le (by omega) (by omega)] at z
    have y : ch ≠ 0 := fun q => y (by rw [hch.1, q]; rfl)
    unfold loN at hK
    rw [if_neg y, if_pos (by omega)] at hK
    exact hK
  · rw [hch.1, show (0 : Int32) = Int32.ofNat 0 from rfl, oN_eq (by omega) (by omega)] at y
    unfold loN at hK
    rw [if_pos y] at hK
    rw [oN_t (by omega), H.2.2.1.2.2.2.2.1 c hc]
    exact hK
end LOOKS

/-! THE REFERENCE: reckoned(), nearer(), fits(), has() -/
theorem plI_r (Rw : List Nat) (y : Nat) : -1 ≤ plI Rw y ∧ plI Rw y < Rw.length := by
  unfold plI
  split
  · rename_i i h
    rw [List.findIdx?_eq_some_iff_getElem] at h
    have := h.1
    omega
  · omega
theorem plI_some {Rw : List Nat} {y i : Nat} (h : Rw[i]? = some y) (hf : ∀ j, j < i → Rw[j]? ≠ some y) : plI Rw y = i := by
  have e : Rw.findIdx? (· == y) = some i := by
    rw [List.findIdx?_eq_some_iff_getElem]
    obtain ⟨h1, h2⟩ := List.getElem?_eq_some_iff.mp h
    refine ⟨h1, by rw [h2]; exact beq_self_eq_true _, fun j hj z => hf j hj ?_⟩
    rw [List.getElem?_eq_getElem (by omega)]
    exact congrArg some (by simpa using z)
  unfold plI
  rw [e]
theorem plI_none {Rw : List Nat} {y : Nat} (h : y ∉ Rw) : plI Rw y = -1 := by
  have e : Rw.findIdx? (· == y) = none := by
    rw [List.findIdx?_eq_none_iff]
    intro z hz
    rw [beq_eq_false_iff_ne]
    intro q
    exact h (q ▸ hz)
  unfold plI
  rw [e]
theorem fd_none {ms : List (Mtd × Bool)} {pl m n : Nat} (h : ∀ i, i < pl → kdW ms m i = kdW ms n i) : fdO ms pl m n = none := by
  unfold fdO
  rw [List.find?_eq_none]
  intro i hi
  rw [decide_eq_true_eq]
  exact fun z => z (h i (List.mem_range.mp hi))
theorem fd_some {ms : List (Mtd × Bool)} {pl m n f : Nat} (hf : f < pl) (hne : kdW ms m f ≠ kdW ms n f) (h : ∀ i, i < f → kdW ms m i = kdW ms n i) : fdO ms pl m n = some f := by
  unfold fdO
  rw [List.find?_range_eq_some]
  refine ⟨by rw [decide_eq_true_eq]; exact hne, List.mem_range.mpr hf, fun j hj => ?_⟩
  have := h j hj
  simp [this]
theorem wyW_ok {W : Wld} {σ : Sg} (H : W3 W.1 W.2.1 W.2.2.1 σ) {c : Nat} (hc : c < W.2.1.length) : wyW W.2.1 c ≤ 2 ∧ σ.i (2409 + 3 * c) 3 = Int32.ofNat (wyW W.2.1 c) ∧ σ.i (2409 + 3 * c) 1 = Int32.ofNat (plW W.2.1 c) := by
  have e : W.2.1[c]? = some W.2.1[c] := List.getElem?_eq_getElem hc
  obtain ⟨-, g1, -, g2⟩ := H.2.1.2.2 c _ e
  unfold wyW plW
  rw [e]
  exact ⟨g2.1, g2.2, g1.2.2⟩
section NEAR2
variable {Z : zT} {d : Nat} {W : Wld} {lst : List Nat} {b wy : Nat} {σ τ : Sg} {K : kS} {kA m n : Nat} {k : Nat → Nat}
theorem rf_pl {c y : Nat} (H : NwS W lst b wy σ) (hc : c < W.1.length) (hy : y < 24) (h : K (.inl (some (.int (Int32.ofInt (plI (rwW W.1 wy c) y))))) σ) : B_X17_place_0 Z (d + 1) σ (2193 + 9 * c) (Int32.ofNat wy) (Int32.ofNat y) K := by
  have hk := H.2.1.1.2.1
  have e : W.1[c]? = some W.1[c] := List.getElem?_eq_getElem hc
  have hR := (H.2.1.1.2.2 c _ e).2.2.2.2.2 wy H.2.2.2.2.2.2
  rw [← rw_get e] at hR
  refine rf_place H.1 (kd_p (by omega)) H.2.2.2.2.2.2 hR.1 (by omega) (fun i h1 h2 => ?_) (fun h0 => ?_)
  · rw [plI_some h1 h2] at h
    exact h
  · rw [plI_none h0] at h
    exact h
theorem rwW_len (H : NwS W lst b wy σ) {c w : Nat} (hc : c < W.1.length) (hw : w < 3) : (rwW W.1 w c).length ≤ 24 := by
  have e : W.1[c]? = some W.1[c] := List.getElem?_eq_getElem hc
  have hR := (H.2.1.1.2.2 c _ e).2.2.2.2.2 w hw
  rw [rw_get e]
  exact hR.1.2.1
theorem oI_i {z : Int} (h1 : -2147483648 ≤ z) (h2 : z ≤ 2147483647) : (Int32.ofInt z).toInt = z := by
  rw [Int32.toInt_ofInt, Int.bmod_def, show (Int32.size : Int) = 4294967296 from rfl]
  omega
/-- reckoned() -/
theorem rf_reckoned (hW : WfW W) (hd : 220 ≤ d) (H : NwS W lst b wy σ) (hm : 1 ≤ m ∧ m ≤ W.2.2.2.length) (hn : 1 ≤ n ∧ n ≤ W.2.2.2.length) (hc : mcW W.2.2.2 n = mcW W.2.2.2 m) (hk : KnS kA k W.1.length (plW W.2.1 (mcW W.2.2.2 m)) σ)
    (h : ∀ τ, FX ΦR τ.sh τ.r → NrF σ τ → τ.i 2069 = σ.i 2069 → τ.i 2070 = σ.i 2070 → K (.inl (some (.int (Int32.ofInt (rkI W wy (plW W.2.1 (mcW W.2.2.2 m)) m n k))))) τ) : B_X23_reckoned_0 Z d σ (2497 + 4 * m) (2497 + 4 * n) kA (Int32.ofNat (plW W.2.1 (mcW W.2.2.2 m))) K := by
  obtain ⟨d, rfl⟩ : ∃ e, d = e + 3 := ⟨d - 3, by omega⟩
  obtain ⟨⟨m1, m2, m2'⟩, ⟨m3, m3'⟩, m4, m5, -, m7⟩ := H.mt hW hm.1 hm.2
  obtain ⟨-, ⟨n3, n3'⟩, n4, n5, -, n7⟩ := H.mt hW hn.1 hn.2
  rw [hc] at n4 n5 n7
  have hk24 := H.2.1.1.2.1
  have hc24 := H.2.1.2.1.2.1
  obtain ⟨w1, w2, -⟩ := wyW_ok H.2.1 m1
  have hy3 := H.2.2.2.2.2.2
  have hR := h σ H.1 (NrF.refl σ) rfl rfl
  generalize hpl : plW W.2.1 (mcW W.2.2.2 m) = pl at *
  have ibc : ib (σ.i (2497 + 4 * m) 0) 24 := by
    rw [m3]
    exact ib_oN (by omega) (by decide)
  have ec : (σ.i (2497 + 4 * m) 0).toNatClampNeg = mcW W.2.2.2 m := by
    rw [m3, oN_t (by omega)]
  have kk : ∀ i, i < pl → σ.i kA (Int32.ofNat i).toNatClampNeg = Int32.ofNat (k i) ∧ k i < W.1.length := fun i hi => by
    rw [oN_t (by omega)]
    exact hk.2.1 i hi
  have mk : ∀ i, i < pl → σ.i (2497 + 4 * m + 1) (Int32.ofNat i).toNatClampNeg = Int32.ofNat (kdW W.2.2.2 m i) ∧ kdW W.2.2.2 m i < W.1.length := fun i hi => by
    rw [oN_t (by omega)]
    exact m4 i hi
  have nk : ∀ i, i < pl → σ.i (2497 + 4 * n + 1) (Int32.ofNat i).toNatClampNeg = Int32.ofNat (kdW W.2.2.2 n i) ∧ kdW W.2.2.2 n i < W.1.length := fun i hi => by
    rw [oN_t (by omega)]
    exact n4 i hi
  have ib3 : ∀ i, i < pl → ib (Int32.ofNat i) 3 := fun i hi => ib_oN (by omega) (by decide)
  have ibK : ∀ {y : Nat}, y < W.1.length → ib (Int32.ofNat y) 24 := fun {y} hy => ib_oN (by omega) (by decide)
  -- each
  have each : (∃ f, fdO W.2.2.2 pl m n = some f) → wyW W.2.1 (mcW W.2.2.2 m) = 1 → ∀ r i, pl - i = r → i ≤ pl → B_X23_reckoned_97 Z (d + 3) σ (2497 + 4 * m) (2497 + 4 * n) (Int32.ofNat pl) (if ((List.range i).all fun i => blW W.1 (kdW W.2.2.2 m i) (kdW W.2.2.2 n i)) = true then 1 else 0) (if ((List.range i).all fun i => blW W.1 (kdW W.2.2.2 n i) (kdW W.2.2.2 m i)) = true then 1 else 0) (Int32.ofNat i) K := by
    rintro ⟨f, hf⟩ hw1 r
    unfold rkI at hR
    rw [hf] at hR
    dsimp only at hR
    rw [if_neg (by omega), if_pos hw1] at hR
    induction r with
    | zero =>
      intro i hr hi
      have e : i = pl := by omega
      subst e
      refine S_X23_reckoned_97 H.1 m5.1 ⟨fun _ => ?_, fun z => absurd (Int32.le_refl _) z⟩
      cases q1 : ((List.range i).all fun i => blW W.1 (kdW W.2.2.2 m i) (kdW W.2.2.2 n i)) <;> cases q2 : ((List.range i).all fun i => blW W.1 (kdW W.2.2.2 n i) (kdW W.2.2.2 m i)) <;> rw [q1, q2] at hR
      · exact ⟨fun _ => ⟨fun _ => hR, fun z => absurd rfl z⟩, fun z => absurd rfl z⟩
      · exact ⟨fun _ => ⟨fun z => absurd z (by decide), fun _ => hR⟩, fun z => absurd rfl z⟩
      · exact ⟨fun z => absurd z (by decide), fun _ => hR⟩
      · exact ⟨fun z => absurd z (by decide), fun _ => hR⟩
    | succ r ih =>
      intro i hr hi
      have hlt : i < pl := by omega
      obtain ⟨a1, a2⟩ := mk i hlt
      obtain ⟨b1, b2⟩ := nk i hlt
      have nx := ih (i + 1) (by omega) (by omega)
      rw [List.range_succ, List.all_append, List.all_append] at nx
      have e1 : ([i].all fun i => blW W.1 (kdW W.2.2.2 m i) (kdW W.2.2.2 n i)) = blW W.1 (kdW W.2.2.2 m i) (kdW W.2.2.2 n i) := by
        simp
      have e2 : ([i].all fun i => blW W.1 (kdW W.2.2.2 n i) (kdW W.2.2.2 m i)) = blW W.1 (kdW W.2.2.2 n i) (kdW W.2.2.2 m i) := by
        simp
      rw [e1, e2] at nx
      have v1 : σ.i (1880 + 1 + ((σ.i (2497 + 4 * m + 1) (Int32.ofNat i).toNatClampNeg).toNatClampNeg)) ((σ.i (2497 + 4 * n + 1) (Int32.ofNat i).toNatClampNeg).toNatClampNeg) = if blW W.1 (kdW W.2.2.2 m i) (kdW W.2.2.2 n i) = true then 1 else 0 := by
        rw [a1, b1, oN_t (by omega), oN_t (by omega)]
        exact H.2.2.2.2.1 _ _ a2 b2
      have v2 : σ.i (1880 + 1 + ((σ.i (2497 + 4 * n + 1) (Int32.ofNat i).toNatClampNeg).toNatClampNeg)) ((σ.i (2497 + 4 * m + 1) (Int32.ofNat i).toNatClampNeg).toNatClampNeg) = if blW W.1 (kdW W.2.2.2 n i) (kdW W.2.2.2 m i) = true then 1 else 0 := by
        rw [a1, b1, oN_t (by omega), oN_t (by omega)]
        exact H.2.2.2.2.1 _ _ b2 a2
      have p137 : B_X23_reckoned_137 Z (d + 3) σ (2497 + 4 * m) (2497 + 4 * n) (Int32.ofNat pl) (if ((List.range i).all fun i => blW W.1 (kdW W.2.2.2 n i) (kdW W.2.2.2 m i)) = true then 1 else 0) (Int32.ofNat i) (if (((List.range i).all fun i => blW W.1 (kdW W.2.2.2 m i) (kdW W.2.2.2 n i)) && blW W.1 (kdW W.2.2.2 m i) (kdW W.2.2.2 n i)) = true then 1 else 0) K := by
        refine S_X23_reckoned_137 H.1 m5.1 ⟨fun z => ?_, fun z => ⟨n5.1, ib3 i hlt, by rw [b1]; exact ibK b2, ib3 i hlt, by rw [a1]; exact ibK a2, ?_⟩⟩
        · have hf : ((List.range i).all fun i => blW W.1 (kdW W.2.2.2 n i) (kdW W.2.2.2 m i)) = false := by
            cases q : ((List.range i).all fun i => blW W.1 (kdW W.2.2.2 n i) (kdW W.2.2.2 m i)) with
            | false => rfl
            | true =>
              rw [q] at z
              exact absurd z (by decide)
          rw [hf, Bool.false_and] at nx
          rw [oN_1]
          exact nx
        · have hf : ((List.range i).all fun i => blW W.1 (kdW W.2.2.2 n i) (kdW W.2.2.2 m i)) = true := by
            cases q : ((List.range i).all fun i => blW W.1 (kdW W.2.2.2 n i) (kdW W.2.2.2 m i)) with
            | true => rfl
            | false =>
              rw [q] at z
              exact absurd rfl z
          rw [hf, Bool.true_and] at nx
          rw [v2, oN_1]
          cases q : blW W.1 (kdW W.2.2.2 n i) (kdW W.2.2.2 m i) <;> rw [q] at nx
          · exact ⟨fun _ => nx, fun z => absurd rfl z⟩
          · exact ⟨fun z => absurd z (by decide), fun _ => nx⟩
      refine S_X23_reckoned_97 H.1 m5.1 ⟨fun z => ?_, fun _ => ⟨fun z => ?_, fun z => ⟨ib3 i hlt, by rw [a1]; exact ibK a2, n5.1, ib3 i hlt, by rw [b1]; exact ibK b2, ?_⟩⟩⟩
      · exfalso
        rw [oN_le (by omega) (by omega)] at z
        omega
      · have hf : ((List.range i).all fun i => blW W.1 (kdW W.2.2.2 m i) (kdW W.2.2.2 n i)) = false := by
          cases q : ((List.range i).all fun i => blW W.1 (kdW W.2.2.2 m i) (kdW W.2.2.2 n i)) with
          | false => rfl
          | true =>
            rw [q] at z
            exact absurd z (by decide)
        rw [hf, Bool.false_and] at p137
        exact S_X23_reckoned_136 H.1 m5.1 p137
      · have hf : ((List.range i).all fun i => blW W.1 (kdW W.2.2.2 m i) (kdW W.2.2.2 n i)) = true := by
          cases q : ((List.range i).all fun i => blW W.1 (kdW W.2.2.2 m i) (kdW W.2.2.2 n i)) with
          | true => rfl
          | false =>
            rw [q] at z
            exact absurd rfl z
        rw [hf, Bool.true_and] at p137
        rw [v1]
        cases q : blW W.1 (kdW W.2.2.2 m i) (kdW W.2.2.2 n i) <;> rw [q] at p137
        · exact ⟨fun _ => S_X23_reckoned_136 H.1 m5.1 p137, fun z => absurd rfl z⟩
        · exact ⟨fun z => absurd z (by decide), fun _ => p137⟩
  -- sums
  have sums : (∃ f, fdO W.2.2.2 pl m n = some f) → wyW W.2.1 (mcW W.2.2.2 m) = 2 → ∀ r i, pl - i = r → i ≤ pl → (-100 ≤ smI W wy k m i ∧ smI W wy k m i ≤ 24 * i) → (-100 ≤ smI W wy k n i ∧ smI W wy k n i ≤ 24 * i) → (-(i : Int) ≤ smI W wy k m i ∧ -(i : Int) ≤ smI W wy k n i) → B_X23_reckoned_264 Z (d + 3) σ (2497 + 4 * m) (2497 + 4 * n) kA (Int32.ofNat pl) (Int32.ofInt (smI W wy k m i)) (Int32.ofInt (smI W wy k n i)) (Int32.ofNat i) K := by
    rintro ⟨f, hf⟩ hw2 r
    unfold rkI at hR
    rw [hf] at hR
    dsimp only at hR
    rw [if_neg (by omega), if_neg (by omega)] at hR
    induction r with
    | zero =>
      intro i hr hi s1 s2 _
      have e : i = pl := by omega
      subst e
      refine S_X23_reckoned_264 H.1 m5.1 ⟨fun _ => ?_, fun z => absurd (Int32.le_refl _) z⟩
      have t1 := oI_i (z := smI W wy k m i) (by omega) (by omega)
      have t2 := oI_i (z := smI W wy k n i) (by omega) (by omega)
      refine S_J6_compare_7cf53_0 (d := d + 1) H.1 ⟨fun z => ⟨fun y => ?_, fun y => ?_⟩, fun z => ?_⟩
      · rw [Int32.le_iff_toInt_le, t1, t2] at z
        have : smI W wy k m i ≠ smI W wy k n i := fun q => y (by rw [q])
        rw [sg3_1.mpr (by omega)] at hR
        exact hR
      · have y := congrArg Int32.toInt y
        rw [t1, t2] at y
        rw [sg3_0.mpr (by omega)] at hR
        exact hR
      · rw [Int32.le_iff_toInt_le, t1, t2] at z
        rw [sg3_m.mpr (by omega)] at hR
        exact hR
    | succ r ih =>
      intro i hr hi s1 s2 s3
      have hlt : i < pl := by omega
      obtain ⟨a1, a2⟩ := mk i hlt
      obtain ⟨b1, b2⟩ := nk i hlt
      obtain ⟨c1, c2⟩ := kk i hlt
      have r1 := plI_r (rwW W.1 wy (k i)) (kdW W.2.2.2 m i)
      have r2 := plI_r (rwW W.1 wy (k i)) (kdW W.2.2.2 n i)
      have r3 := rwW_len H c2 hy3
      refine S_X23_reckoned_264 H.1 m5.1 ⟨fun z => ?_, fun _ => ⟨3, hk.1.1, ib3 i hlt, by rw [c1]; exact ibK c2, ib3 i hlt, ?_⟩⟩
      · exfalso
        rw [oN_le (by omega) (by omega)] at z
        omega
      · rw [c1, a1, H.2.2.2.2.2.1, oN_t (by omega)]
        refine rf_pl (d := d + 1) H c2 (by omega) ⟨3, hk.1.1, ib3 i hlt, by rw [c1]; exact ibK c2, n5.1, ib3 i hlt, ?_⟩
        rw [c1, b1, H.2.2.2.2.2.1, oN_t (by omega)]
        refine rf_pl (d := d + 1) H c2 (by omega) ?_
        show B_X23_reckoned_264 Z (d + 3) σ _ _ _ _ (Int32.ofInt (smI W wy k m i) + Int32.ofInt _) (Int32.ofInt (smI W wy k n i) + Int32.ofInt _) (Int32.ofNat i + 1) K
        rw [oN_1, ← Int32.ofInt_add, ← Int32.ofInt_add]
        refine ih (i + 1) (by omega) (by omega) ⟨?_, ?_⟩ ⟨?_, ?_⟩ ⟨?_, ?_⟩ <;> (rw [smI]; omega)
  -- from the first difference on
  have p33 : ∀ f, f ≤ pl → (∀ i, i < f → kdW W.2.2.2 m i = kdW W.2.2.2 n i) → (f < pl → kdW W.2.2.2 m f ≠ kdW W.2.2.2 n f) → B_X23_reckoned_33 Z (d + 3) σ (2497 + 4 * m) (2497 + 4 * n) kA (Int32.ofNat pl) (Int32.ofNat f) K := by
    intro f hf heq hne
    by_cases hfp : f = pl
    · subst hfp
      refine S_X23_reckoned_33 H.1 ⟨fun z => absurd rfl z, fun _ => ?_⟩
      rw [← hpl] at hk
      refine rf_asksMore hW (by omega) H hm hn hc hk (fun τ Fτ g k1 k2 => ?_)
      have hKτ := h τ Fτ g k1 k2
      unfold rkI at hKτ
      rw [fd_none heq] at hKτ
      rw [hpl]
      exact hKτ
    · have hlt : f < pl := by omega
      have hfd : fdO W.2.2.2 pl m n = some f := fd_some hlt (hne hlt) heq
      obtain ⟨a1, a2⟩ := mk f hlt
      obtain ⟨b1, b2⟩ := nk f hlt
      obtain ⟨c1, c2⟩ := kk f hlt
      refine S_X23_reckoned_33 H.1 ⟨fun _ => ⟨m5.1, ibc, ?_⟩, fun z => ?_⟩
      · rw [ec, w2]
        refine ⟨fun z => ?_, fun z => ?_, fun z1 z2 => ?_⟩
        · have hw0 : wyW W.2.1 (mcW W.2.2.2 m) = 0 := by
            rw [show (0 : Int32) = Int32.ofNat 0 from rfl, oN_eq (by omega) (by omega)] at z
            exact z
          refine ⟨3, hk.1.1, ib3 f hlt, by rw [c1]; exact ibK c2, ib3 f hlt, ?_⟩
          rw [c1, a1, H.2.2.2.2.2.1, oN_t (by omega)]
          refine rf_pl (d := d + 1) H c2 (by omega) ⟨3, hk.1.1, ib3 f hlt, by rw [c1]; exact ibK c2, n5.1, ib3 f hlt, ?_⟩
          rw [c1, b1, H.2.2.2.2.2.1, oN_t (by omega)]
          refine rf_pl (d := d + 1) H c2 (by omega) ?_
          have r1 := plI_r (rwW W.1 wy (k f)) (kdW W.2.2.2 m f)
          have r2 := plI_r (rwW W.1 wy (k f)) (kdW W.2.2.2 n f)
          have r3 := rwW_len H c2 hy3
          unfold rkI at hR
          rw [hfd] at hR
          dsimp only at hR
          rw [if_pos hw0] at hR
          refine ⟨fun y => ?_, fun y => ?_⟩
          · rw [Int32.le_iff_toInt_le, oI_i (by omega) (by omega), oI_i (by omega) (by omega)] at y
            rw [if_neg (by omega)] at hR
            exact hR
          · rw [Int32.le_iff_toInt_le, oI_i (by omega) (by omega), oI_i (by omega) (by omega)] at y
            rw [if_pos (by omega)] at hR
            exact hR
        · have hw1 : wyW W.2.1 (mcW W.2.2.2 m) = 1 := by
            rw [show (1 : Int32) = Int32.ofNat 1 from rfl, oN_eq (by omega) (by omega)] at z
            exact z
          exact each ⟨f, hfd⟩ hw1 pl 0 (by omega) (Nat.zero_le _)
        · have hw2 : wyW W.2.1 (mcW W.2.2.2 m) = 2 := by
            have e0 : wyW W.2.1 (mcW W.2.2.2 m) ≠ 0 := fun y => z1 (by rw [y]; rfl)
            have e1 : wyW W.2.1 (mcW W.2.2.2 m) ≠ 1 := fun y => z2 (by rw [y]; rfl)
            omega
          have z1 : smI W wy k m 0 = 0 := rfl
          have z2 : smI W wy k n 0 = 0 := rfl
          exact sums ⟨f, hfd⟩ hw2 pl 0 (by omega) (Nat.zero_le _) (by omega) (by omega) (by omega)
      · exfalso
        rw [oN_eq (by omega) (by omega)] at z
        omega
  have loop : ∀ r f, pl - f = r → f ≤ pl → (∀ i, i < f → kdW W.2.2.2 m i = kdW W.2.2.2 n i) → B_X23_reckoned_3 Z (d + 3) σ (2497 + 4 * m) (2497 + 4 * n) kA (Int32.ofNat pl) (Int32.ofNat f) K := by
    intro r
    induction r with
    | zero =>
      intro f hr hf heq
      have e : f = pl := by omega
      subst e
      exact S_X23_reckoned_3 H.1 ⟨fun _ => p33 f (Nat.le_refl _) heq (fun z => absurd z (Nat.lt_irrefl _)), fun z => absurd (Int32.le_refl _) z⟩
    | succ r ih =>
      intro f hr hf heq
      have hlt : f < pl := by omega
      obtain ⟨a1, a2⟩ := mk f hlt
      obtain ⟨b1, b2⟩ := nk f hlt
      refine S_X23_reckoned_3 H.1 ⟨fun z => ?_, fun _ => ⟨m5.1, ib3 f hlt, n5.1, ib3 f hlt, ?_⟩⟩
      · exfalso
        rw [oN_le (by omega) (by omega)] at z
        omega
      · rw [a1, b1, oN_eq (by omega) (by omega)]
        refine ⟨fun z => p33 f hf heq (fun _ => z), fun z => ?_⟩
        rw [oN_1]
        refine ih (f + 1) (by omega) (by omega) (fun i hi => ?_)
        by_cases q : i = f
        · rw [q]
          exact z
        · exact heq i (by omega)
  exact S_X23_reckoned_0 H.1 (loop pl 0 (by omega) (Nat.zero_le _) (fun i hi => by omega))
/-! nearer() -/
def kyN (m n : Nat) (k : Nat → Nat) : Nat := (((m * 128 + n) * 32 + k 0) * 32 + k 1) * 32 + k 2
abbrev hxX (x : Int32) : Int32 := ((x ^^^ ((Int32.toUInt32 x >>> (Int32.toUInt32 (11 : Int32) &&& Int32.toUInt32 31)).toInt32)) ^^^ ((Int32.toUInt32 x >>> (Int32.toUInt32 (19 : Int32) &&& Int32.toUInt32 31)).toInt32)) &&& (8191 : Int32)
theorem and_b (x : Int32) : ib (x &&& (8191 : Int32)) 8192 := by
  have h : (x &&& (8191 : Int32)).toBitVec.toNat ≤ 8191 := by
    rw [Int32.toBitVec_and, BitVec.toNat_and]
    exact Nat.and_le_right
  have e : (x &&& (8191 : Int32)).toInt = (x &&& (8191 : Int32)).toBitVec.toNat := by
    show (x &&& (8191 : Int32)).toBitVec.toInt = _
    rw [BitVec.toInt_eq_toNat_cond, if_pos (by omega)]
  exact ib_i (by omega) (by omega)
/-- what is kept of pairs is right -/
def MmR (W : Wld) (wy : Nat) (σ : Sg) : Prop := ∀ (a m n : Nat) (k : Nat → Nat), a < 8192 → m < 128 → n < 128 → (∀ i, k i < 32) → (∀ i, plW W.2.1 (mcW W.2.2.2 m) ≤ i → k i = 0) → plW W.2.1 (mcW W.2.2.2 m) ≤ 3 → σ.i 2069 a = Int32.ofNat (kyN m n k) → σ.i 2070 a = Int32.ofInt (nrI W wy m n k)
theorem rf_nearer (hW : WfW W) (hd : 230 ≤ d) (H : NwS W lst b wy σ) (M : MmR W wy σ) (hm : 1 ≤ m ∧ m ≤ W.2.2.2.length) (hn : 1 ≤ n ∧ n ≤ W.2.2.2.length) (hc : mcW W.2.2.2 n = mcW W.2.2.2 m) (hk : KnS kA k W.1.length (plW W.2.1 (mcW W.2.2.2 m)) σ)
    (h : ∀ τ, FX ΦR τ.sh τ.r → NrF σ τ → MmR W wy τ → K (.inl (some (.int (Int32.ofInt (nrI W wy m n k))))) τ) : B_X23_nearer_0 Z d σ (Int32.ofNat m) (Int32.ofNat n) kA K := by
  obtain ⟨d, rfl⟩ : ∃ e, d = e + 1 := ⟨d - 1, by omega⟩
  obtain ⟨⟨m1, m2, m2'⟩, ⟨m3, m3'⟩, m4, m5, -, m7⟩ := H.mt hW hm.1 hm.2
  have hk24 := H.2.1.1.2.1
  have hc24 := H.2.1.2.1.2.1
  have h120 := H.2.2.1.2
  obtain ⟨-, -, w3⟩ := wyW_ok H.2.1 m1
  have kb : ∀ i, k i < 32 := fun i => by
    by_cases q : i < plW W.2.1 (mcW W.2.2.2 m)
    · have := (hk.2.1 i q).2
      omega
    · rw [hk.2.2 i (by omega)]
      decide
  have k0 := kb 0
  have k1 := kb 1
  have k2 := kb 2
  refine S_X23_nearer_0 H.1 ⟨fun hne => ⟨ib_oN (by omega) (by decide), ?_, ?_⟩, fun heq => ?_⟩
  · rw [oN_t (by omega), m3]
    exact ib_oN (by omega) (by decide)
  · rw [oN_eq (by omega) (by omega)] at hne
    rw [oN_t (by omega), m3, oN_t (by omega), w3]
    have last : B_X23_nearer_42 Z (d + 1) σ (Int32.ofNat m) (Int32.ofNat n) kA (Int32.ofNat (kyN m n k)) (Int32.ofNat (plW W.2.1 (mcW W.2.2.2 m))) (Int32.ofNat 3) K := by
      have hkl : kyN m n k < 2147483648 := by
        unfold kyN
        omega
      generalize hx : Int32.ofNat (kyN m n k) = x at *
      have hib := and_b ((x ^^^ ((Int32.toUInt32 x >>> (Int32.toUInt32 (11 : Int32) &&& Int32.toUInt32 31)).toInt32)) ^^^ ((Int32.toUInt32 x >>> (Int32.toUInt32 (19 : Int32) &&& Int32.toUInt32 31)).toInt32))
      have hlt : (hxX x).toNatClampNeg < 8192 := hib.2
      refine S_X23_nearer_42 H.1 ⟨fun _ => ⟨hib, fun z => ⟨ib_oN (by omega) (by decide), ib_oN (by omega) (by decide), ?_⟩, fun z => ⟨hib, ?_⟩⟩, fun z => absurd (by decide) z⟩
      · rw [oN_t (by omega), oN_t (by omega)]
        refine rf_reckoned hW (by omega) H hm hn hc hk (fun τ Fτ g e1 e2 => ⟨hib, hib, ?_⟩)
        have hr : nrI W wy m n k = rkI W wy (plW W.2.1 (mcW W.2.2.2 m)) m n k := by
          unfold nrI
          rw [if_neg hne]
        have hrr := nrI_r W wy m n k
        rw [← hr]
        have nar : vp_nar .byte ((Int32.toInt8 (Int32.ofInt (nrI W wy m n k))).toInt32) = Int32.ofInt (nrI W wy m n k) := by
          rcases i3_cases hrr with q | q | q <;> rw [q] <;> decide
        rw [nar]
        refine h _ Fτ (g.tr ⟨rfl, fun _ _ _ => rfl, fun a j _ _ q3 => ?_, fun _ _ => rfl⟩) (fun a m' n' k' ha hm' hn' hk' hk0 hp3 hkey => ?_)
        · rw [wi_ne (by omega), wi_ne (by omega)]
        · by_cases q : a = (hxX x).toNatClampNeg
          · rw [q, wi_row (by decide), wi_at, ← hx] at hkey
            have b0 := hk' 0
            have b1 := hk' 1
            have b2 := hk' 2
            have hkl' : kyN m' n' k' < 2147483648 := by
              unfold kyN
              omega
            rw [oN_eq hkl hkl'] at hkey
            unfold kyN at hkey
            have e1 : m' = m := by omega
            have e2 : n' = n := by omega
            have e3 : k' 0 = k 0 := by omega
            have e4 : k' 1 = k 1 := by omega
            have e5 : k' 2 = k 2 := by omega
            subst e1
            subst e2
            have ek : k' = k := by
              funext i
              match i with
              | 0 => exact e3
              | 1 => exact e4
              | 2 => exact e5
              | i + 3 => rw [hk0 (i + 3) (by omega), hk.2.2 (i + 3) (by omega)]
            rw [q, ek]
            exact wi_at _ _ _ _
          · rw [wi_row (by decide), wi_ne (fun y => q y.2), e1] at hkey
            rw [wi_ne (fun y => q y.2), wi_row (by decide), e2]
            exact M a m' n' k' ha hm' hn' hk' hk0 hp3 hkey
      · rw [← hx] at z
        have := M _ m n k (by rw [hx]; exact hlt) (by omega) (by omega) kb hk.2.2 m2' z
        rw [hx] at this
        rw [this]
        exact h σ H.1 (NrF.refl σ) M
    -- the key
    have st : ∀ i ky, i < 3 → ky < 2147483648 → B_X23_nearer_42 Z (d + 1) σ (Int32.ofNat m) (Int32.ofNat n) kA (Int32.ofNat (ky * 32 + k i)) (Int32.ofNat (plW W.2.1 (mcW W.2.2.2 m))) (Int32.ofNat (i + 1)) K → B_X23_nearer_42 Z (d + 1) σ (Int32.ofNat m) (Int32.ofNat n) kA (Int32.ofNat ky) (Int32.ofNat (plW W.2.1 (mcW W.2.2.2 m))) (Int32.ofNat i) K := by
      intro i ky hi hky nx
      refine S_X23_nearer_42 H.1 ⟨fun z => ?_, fun _ => ⟨fun z => ?_, fun z => ⟨3, hk.1.1, ib_oN hi (by decide), ?_⟩⟩⟩
      · exfalso
        rw [show (3 : Int32) = Int32.ofNat 3 from rfl, oN_le (by omega) (by omega)] at z
        omega
      · rw [oN_le (by omega) (by omega)] at z
        rw [oN_1, show (32 : Int32) = Int32.ofNat 32 from rfl, oN_mul, show (0 : Int32) = Int32.ofNat 0 from rfl, oN_add]
        rw [hk.2.2 i z] at nx
        exact nx
      · rw [oN_le (by omega) (by omega)] at z
        rw [oN_1, oN_t (by omega), (hk.2.1 i (by omega)).1, show (32 : Int32) = Int32.ofNat 32 from rfl, oN_mul, oN_add]
        exact nx
    have e0 : Int32.ofNat m * (128 : Int32) + Int32.ofNat n = Int32.ofNat (m * 128 + n) := by
      rw [show (128 : Int32) = Int32.ofNat 128 from rfl, oN_mul, oN_add]
    rw [e0]
    exact st 0 _ (by decide) (by omega) (st 1 _ (by decide) (by omega) (st 2 _ (by decide) (by omega) last))
  · rw [oN_eq (by omega) (by omega)] at heq
    have := h σ H.1 (NrF.refl σ) M
    unfold nrI at this
    rw [if_pos heq] at this
    exact this
/-- whether a method fits these kinds -/
def ftB (W : Wld) (m : Nat) (k : Nat → Nat) : Bool := (List.range (plW W.2.1 (mcW W.2.2.2 m))).all fun i => blW W.1 (k i) (kdW W.2.2.2 m i)
theorem rf_fits (hW : WfW W) (H : NwS W lst b wy σ) (hm : 1 ≤ m ∧ m ≤ W.2.2.2.length) (hs : σ.sh[kA]? = some (Sh.arr 0 3)) (hk : ∀ i, i < plW W.2.1 (mcW W.2.2.2 m) → σ.i kA i = Int32.ofNat (k i) ∧ k i < W.1.length) (h : K (.inl (some (.int (if ftB W m k = true then 1 else 0)))) σ) : B_X23_fits_0 Z (d + 1) σ (Int32.ofNat m) kA K := by
  obtain ⟨⟨m1, m2, m2'⟩, ⟨m3, m3'⟩, m4, m5, -, m7⟩ := H.mt hW hm.1 hm.2
  have hk24 := H.2.1.1.2.1
  have hc24 := H.2.1.2.1.2.1
  have h120 := H.2.2.1.2
  obtain ⟨-, -, w3⟩ := wyW_ok H.2.1 m1
  unfold ftB at h
  generalize hpl : plW W.2.1 (mcW W.2.2.2 m) = pl at *
  have ibc : ib (σ.i (2497 + 4 * m) 0) 24 := by
    rw [m3]
    exact ib_oN (by omega) (by decide)
  have ec : (σ.i (2497 + 4 * m) 0).toNatClampNeg = mcW W.2.2.2 m := by
    rw [m3, oN_t (by omega)]
  have loop : ∀ r i, pl - i = r → i ≤ pl → (∀ j, j < i → blW W.1 (k j) (kdW W.2.2.2 m j) = true) → B_X23_fits_10 Z (d + 1) σ kA (2497 + 4 * m) (Int32.ofNat i) K := by
    intro r
    induction r with
    | zero =>
      intro i hr hi hall
      have e : i = pl := by omega
      subst e
      refine S_X23_fits_10 H.1 m5.1 ⟨ibc, fun _ => ?_, fun z => absurd (by rw [ec, w3]; exact Int32.le_refl _) z⟩
      rw [if_pos (by rw [List.all_eq_true]; exact fun j hj => hall j (List.mem_range.mp hj))] at h
      exact h
    | succ r ih =>
      intro i hr hi hall
      have hlt : i < pl := by omega
      obtain ⟨c1, c2⟩ := hk i hlt
      obtain ⟨a1, a2⟩ := m4 i hlt
      refine S_X23_fits_10 H.1 m5.1 ⟨ibc, fun z => ?_, fun _ => ⟨3, hs, ib_oN (by omega) (by decide), ?_, ib_oN (by omega) (by decide), ?_, ?_⟩⟩
      · exfalso
        rw [ec, w3, oN_le (by omega) (by omega)] at z
        omega
      · rw [oN_t (by omega), c1]
        exact ib_oN (by omega) (by decide)
      · rw [oN_t (by omega), a1]
        exact ib_oN (by omega) (by decide)
      · have v : σ.i (1880 + 1 + ((σ.i kA (Int32.ofNat i).toNatClampNeg).toNatClampNeg)) ((σ.i (2497 + 4 * m + 1) (Int32.ofNat i).toNatClampNeg).toNatClampNeg) = if blW W.1 (k i) (kdW W.2.2.2 m i) = true then 1 else 0 := by
          rw [oN_t (by omega), c1, a1, oN_t (by omega), oN_t (by omega)]
          exact H.2.2.2.2.1 _ _ c2 a2
        rw [v]
        cases q : blW W.1 (k i) (kdW W.2.2.2 m i)
        · refine ⟨fun z => absurd rfl z, fun _ => ?_⟩
          rw [if_neg] at h
          · exact h
          · rw [List.all_eq_true]
            intro z
            have := z i (List.mem_range.mpr hlt)
            rw [q] at this
            cases this
        · refine ⟨fun _ => ?_, fun z => absurd z (by decide)⟩
          rw [oN_1]
          refine ih (i + 1) (by omega) (by omega) (fun j hj => ?_)
          by_cases e : j = i
          · rw [e]
            exact q
          · exact hall j (by omega)
  refine S_X23_fits_0 H.1 ⟨ib_oN (by omega) (by decide), ?_⟩
  rw [oN_t (by omega)]
  exact loop pl 0 (by omega) (Nat.zero_le _) (fun j hj => by omega)
theorem cmp_0 {v : Int64} : lg_cmp v 0 = 0 ↔ v = 0 := by
  unfold lg_cmp
  split
  · rename_i h
    refine ⟨fun z => absurd z (by decide), fun z => ?_⟩
    subst z
    exact absurd h (by decide)
  · split
    · rename_i e
      exact ⟨fun _ => e, fun _ => rfl⟩
    · rename_i e
      exact ⟨fun z => absurd z (by decide), fun z => absurd z e⟩
theorem rf_has {A : Nat} (F : FX ΦR σ.sh σ.r) (hs : σ.sh[A]? = some (Sh.arr 1 2)) (hm : 1 ≤ m ∧ m ≤ 128) (h : K (.inl (some (.int (if st2 σ A m = true then 1 else 0)))) σ) : B_X23_has_0 Z (d + 1) σ A (Int32.ofNat m) K := by
  have e1 : Int32.ofNat m - (1 : Int32) = Int32.ofNat (m - 1) := oN_p1 hm.1
  refine S_X23_has_0 F ⟨2, hs, ?_, ?_⟩
  · rw [e1, sh6 (by omega)]
    exact ib_oN (by omega) (by decide)
  · rw [e1, sh6 (by omega), oN_t (by omega), cmp_0]
    have key : (((Int64.toUInt64 (σ.l A ((m - 1) / 64)) >>> ((Int32.toInt64 (Int32.ofNat (m - 1))).toUInt64 &&& Int64.toUInt64 63)).toInt64) &&& (1 : Int64)) = 0 ↔ st2 σ A m = false := by
      rw [tb_eq0]
      have t1 : ∀ c : Fin 64, tb (1 : Int64) c.val = decide (c.val = 0) := by decide +kernel
      constructor
      · intro z
        have := z 0 (by decide)
        rw [tb_and, tb_ushr (by omega), t1 ⟨0, by decide⟩] at this
        rw [decide_eq_true rfl, Bool.and_true, Nat.add_zero] at this
        exact this
      · intro z c hc
        rw [tb_and, tb_ushr (by omega), t1 ⟨c, hc⟩]
        by_cases q : c = 0
        · subst q
          rw [Nat.add_zero]
          have z : tb (σ.l A ((m - 1) / 64)) ((m - 1) % 64) = false := z
          rw [z, Bool.false_and]
        · rw [decide_eq_false q, Bool.and_false]
    rw [key]
    cases q : st2 σ A m <;> rw [q] at h
    · exact ⟨fun _ => h, fun z => absurd rfl z⟩
    · exact ⟨fun z => absurd z (by decide), fun _ => h⟩
end NEAR2

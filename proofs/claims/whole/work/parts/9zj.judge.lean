/-! WHETHER A CALL IS WHOLE -/
/-- the plain methods without a layer that fit -/
def pnB (W : Wld) (c : Nat) (k : Nat → Nat) (m : Nat) : Bool := mnB W.2.2.2 c m && decide (rlM W.2.2.2 m = 0) && decide (lyM W.2.2.2 m < 0) && ftB W m k
def stW (W : Wld) (c : Nat) (k : Nat → Nat) (n : Nat) : List Nat := ((List.range n).map (· + 1)).filter (pnB W c k)
/-- it asks something -/
def akB (W : Wld) (m : Nat) : Bool := ((List.range (plW W.2.1 (mcW W.2.2.2 m))).any (hsI (spM W.2.2.2 m))) || !(tsM W.2.2.2 m).isNil
def meM (ms : List (Mtd × Bool)) (m : Nat) : Nat := ((ms[m - 1]?).map (·.1.2.2.2.2.2.2)).getD 0
def meS (W : Wld) (L : List Nat) : Nat := (L.map (meM W.2.2.2)).sum
theorem stW_s (W : Wld) (c : Nat) (k : Nat → Nat) (n : Nat) : stW W c k (n + 1) = stW W c k n ++ if pnB W c k (n + 1) = true then [n + 1] else [] := by
  unfold stW
  rw [List.range_succ, List.map_append, List.filter_append]
  congr 1
  show List.filter _ [n + 1] = _
  rw [List.filter_cons]
  split <;> rfl
theorem stW_len (W : Wld) (c : Nat) (k : Nat → Nat) (n : Nat) : (stW W c k n).length ≤ n := by
  unfold stW
  have := List.length_filter_le (pnB W c k) ((List.range n).map (· + 1))
  rw [List.length_map, List.length_range] at this
  exact this
theorem stW_mem {W : Wld} {c : Nat} {k : Nat → Nat} {n : Nat} : ∀ x ∈ stW W c k n, (1 ≤ x ∧ x ≤ n) ∧ mcW W.2.2.2 x = c := by
  intro x hx
  obtain ⟨h1, h2⟩ := List.mem_filter.mp hx
  obtain ⟨y, hy, e⟩ := List.mem_map.mp h1
  have := List.mem_range.mp hy
  unfold pnB mnB at h2
  rw [Bool.and_eq_true, Bool.and_eq_true, Bool.and_eq_true, Bool.and_eq_true] at h2
  exact ⟨by omega, of_decide_eq_true h2.1.1.1.2⟩
/-- what NwS doesn't read -/
def nwE (a k : Nat) : Prop := ¬ ((2193 ≤ a ∧ a < 2981) ∨ 3365 ≤ a ∨ (1880 ≤ a ∧ a < 1905) ∨ (a = 0 ∧ (k = 4 ∨ k = 5 ∨ k = 6 ∨ k = 7 ∨ k = 83)))
section JUDGE1
variable {Z : zT} {d : Nat} {W : Wld} {lst : List Nat} {b wy : Nat} {σ τ : Sg} {K : kS} {c m : Nat} {k : Nat → Nat} {E : Nat → Nat → Prop}
theorem NwS.ge (h : NwS W lst b wy σ) (g : GF E σ τ) (hE : ∀ a k, E a k → nwE a k) (hF : FX ΦR τ.sh τ.r) : NwS W lst b wy τ := by
  obtain ⟨h1, h2, ⟨h3, h3'⟩, h4, h5, h6, h7⟩ := h
  have hk := h2.1.2.1
  have hc := h2.2.1.2.1
  have hl := h2.2.2.2.1
  have nE : ∀ a k, ¬ nwE a k → ¬ E a k := fun a k q z => q (hE a k z)
  have row : ∀ a, (2193 ≤ a ∧ a < 2981) ∨ 3365 ≤ a ∨ (1880 ≤ a ∧ a < 1905) → τ.i a = σ.i a := fun a q => g.row (fun k => nE a k (fun z => z (by omega))) (by omega) (by omega) (by omega)
  have z0 : ∀ k, (k = 4 ∨ k = 5 ∨ k = 6 ∨ k = 7 ∨ k = 83) → τ.i 0 k = σ.i 0 k := fun k q => g.2.2.1 0 k (nE 0 k (fun z => z (by omega))) (by omega) (by omega) (by omega)
  refine ⟨hF, h2.keep (fun a ha => row a (by omega)) (z0 4 (by decide)) (z0 5 (by decide)) (z0 7 (by decide)), ⟨(z0 6 (by decide)).trans h3, h3'⟩, fun j x hx => ?_, fun a b ha hb => ?_, ⟨(z0 83 (by decide)).trans h6, h7⟩⟩
  · have hj := (List.getElem?_eq_some_iff.mp hx).1
    refine (h4 j x hx).mono (fun _ _ z => z) (fun a a1 a2 => row a (by omega)) (funext fun k => g.2.1 _ k (by omega)) (fun y hy hys => ?_)
    have := nd_ge h1 hys
    exact ⟨hy, by rw [g.1]; exact hys, row y (by omega), g.2.2.2 y (by omega), funext fun k => g.2.1 y k (by omega)⟩
  · rw [row _ (by omega)]
    exact h5 a b ha hb
/-- what collecting and judging a row may write -/
def jgE (a k : Nat) : Prop := (a = 0 ∧ (k = 74 ∨ k = 75 ∨ k = 102 ∨ k = 106 ∨ k = 107 ∨ k = 108)) ∨ a = 2131 ∨ (2186 ≤ a ∧ a ≤ 2190)
theorem jg_nw : ∀ a k, jgE a k → nwE a k := fun a k q => by
  unfold jgE at q
  unfold nwE
  omega
theorem KnS.ge {kn pl : Nat} {kA : Nat} (h : KnS kA k kn pl σ) (g : GF E σ τ) (hE : ∀ j, ¬ E kA j) : KnS kA k kn pl τ := by
  obtain ⟨⟨h1, h2, h3, h4⟩, h5, h6⟩ := h
  refine ⟨⟨by rw [g.1]; exact h1, h2, h3, h4⟩, fun i hi => ?_, h6⟩
  rw [g.row hE h2 h3 h4]
  exact h5 i hi
theorem NwS.me (hW : WfW W) (H : NwS W lst b wy σ) (h1 : 1 ≤ m) (h2 : m ≤ W.2.2.2.length) : σ.i (2497 + 4 * m) 4 = Int32.ofNat (meM W.2.2.2 m) ∧ meM W.2.2.2 m ≤ 9 ∧ (akB W m = true → 1 ≤ meM W.2.2.2 m) ∧ (atM (plW W.2.1 (mcW W.2.2.2 m)) (spM W.2.2.2 m) (tsM W.2.2.2 m)).length ≤ meM W.2.2.2 m := by
  have e : W.2.2.2[m - 1]? = some W.2.2.2[m - 1] := List.getElem?_eq_getElem (by omega)
  obtain ⟨kk, a1, a2, a3, a4, a5, a6, a7, a8, a9⟩ := hW.2.2 _ (List.mem_of_getElem? e)
  obtain ⟨-, -, -, -, -, m4, -⟩ := H.2.2.2.1 (m - 1) _ e
  rw [show 2501 + 4 * (m - 1) = 2497 + 4 * m by omega] at m4
  have hpl := plW_ok hW.2.1 a2
  have emc : mcW W.2.2.2 m = kk := by
    unfold mcW
    rw [e]
    dsimp only
    rw [a1]
    rfl
  have eme : meM W.2.2.2 m = W.2.2.2[m - 1].1.2.2.2.2.2.2 := by
    unfold meM
    rw [e]
    rfl
  have esp : spM W.2.2.2 m = W.2.2.2[m - 1].1.2.2.2.1 := by
    unfold spM
    rw [e]
    rfl
  have ets : tsM W.2.2.2 m = W.2.2.2[m - 1].1.2.2.2.2.1 := by
    unfold tsM
    rw [e]
    rfl
  have hh : hsN (plW W.2.1 kk) W.2.2.2[m - 1].1.2.2.2.1 = (eqL (plW W.2.1 kk) W.2.2.2[m - 1].1.2.2.2.1).length := by
    unfold hsN eqL
    rw [List.length_map]
    rfl
  have hl := eqL_le (plW W.2.1 kk) W.2.2.2[m - 1].1.2.2.2.1
  rw [eme]
  refine ⟨m4, by omega, fun hak => ?_, ?_⟩
  · unfold akB at hak
    rw [emc, esp, ets, Bool.or_eq_true] at hak
    rcases hak with q | q
    · obtain ⟨i, i1, i2⟩ := List.any_eq_true.mp q
      have : 1 ≤ (eqL (plW W.2.1 kk) W.2.2.2[m - 1].1.2.2.2.1).length := by
        unfold eqL
        rw [List.length_map]
        exact List.length_pos_of_mem (List.mem_filter.mpr ⟨i1, i2⟩)
      omega
    · have hne : W.2.2.2[m - 1].1.2.2.2.2.1 ≠ .nil := fun z => by
        rw [z] at q
        cases q
      have := a8.2.2.1 hne
      omega
  · rw [emc, esp, ets]
    unfold atM
    rw [List.length_append]
    have : (atL W.2.2.2[m - 1].1.2.2.2.2.1).length ≤ lfN W.2.2.2[m - 1].1.2.2.2.2.1 := by
      rcases a7 with z | z
      · rw [z]
        exact Nat.zero_le _
      · exact atL_le _ z
    omega
/-- asks() -/
theorem rf_asks (hW : WfW W) (H : NwS W lst b wy σ) (h1 : 1 ≤ m) (h2 : m ≤ W.2.2.2.length) (h : K (.inl (some (.int (if akB W m = true then 1 else 0)))) σ) : B_X18_asks_0 Z (d + 1) σ (2497 + 4 * m) (Int32.ofNat (plW W.2.1 (mcW W.2.2.2 m))) K := by
  obtain ⟨⟨m1, m2, m2'⟩, -, -, ⟨t1, -, t4, t5⟩, ⟨m6, -⟩, -⟩ := H.mt hW h1 h2
  unfold akB at h
  have loop : ∀ r i, plW W.2.1 (mcW W.2.2.2 m) - i = r → i ≤ plW W.2.1 (mcW W.2.2.2 m) → (∀ j, j < i → hsI (spM W.2.2.2 m) j = false) → B_X18_asks_2 Z (d + 1) σ (2497 + 4 * m) (Int32.ofNat (plW W.2.1 (mcW W.2.2.2 m))) (Int32.ofNat i) K := by
    intro r
    induction r with
    | zero =>
      intro i hr hi hpre
      have e : i = plW W.2.1 (mcW W.2.2.2 m) := by omega
      subst e
      have hf : ((List.range (plW W.2.1 (mcW W.2.2.2 m))).any (hsI (spM W.2.2.2 m))) = false := by
        rw [List.any_eq_false]
        intro j hj z
        rw [hpre j (List.mem_range.mp hj)] at z
        cases z
      rw [hf, Bool.false_or] at h
      refine S_X18_asks_2 H.1 t1 ⟨fun _ => ⟨fun z => ?_, fun z => ?_⟩, fun z => absurd (Int32.le_refl _) z⟩
      · have := (ts_nil t5).mp z
        rw [this] at h
        exact h
      · have : (tsM W.2.2.2 m).isNil = false := by
          cases q : (tsM W.2.2.2 m).isNil with
          | false => rfl
          | true => exact absurd ((ts_nil t5).mpr q) z
        rw [this] at h
        exact h
    | succ r ih =>
      intro i hr hi hpre
      have hlt : i < plW W.2.1 (mcW W.2.2.2 m) := by omega
      refine S_X18_asks_2 H.1 t1 ⟨fun z => ?_, fun _ => ⟨ib_oN (by omega) (by decide), ?_⟩⟩
      · exfalso
        rw [oN_le (by omega) (by omega)] at z
        omega
      · rw [oN_t (by omega), t4 i hlt]
        cases q : hsI (spM W.2.2.2 m) i
        · refine ⟨fun _ => ?_, fun z => absurd rfl z⟩
          rw [oN_1]
          refine ih (i + 1) (by omega) (by omega) (fun j hj => ?_)
          by_cases e : j = i
          · rw [e]
            exact q
          · exact hpre j (by omega)
        · refine ⟨fun z => absurd z (by decide), fun _ => ?_⟩
          have : ((List.range (plW W.2.1 (mcW W.2.2.2 m))).any (hsI (spM W.2.2.2 m))) = true := List.any_eq_true.mpr ⟨i, List.mem_range.mpr hlt, q⟩
          rw [this, Bool.true_or] at h
          exact h
  exact S_X18_asks_0 H.1 t1 (loop _ 0 rfl (Nat.zero_le _) (fun j hj => by omega))
/-- what is collected -/
def CoS (W : Wld) (L : List Nat) (τ : Sg) : Prop := (τ.i 0 102 = Int32.ofNat L.length ∧ ∀ (j x : Nat), L[j]? = some x → τ.i 2186 j = Int32.ofNat x) ∧ (τ.i 0 107 = Int32.ofNat (L.filter (akB W)).length ∧ ∀ (j x : Nat), (L.filter (akB W))[j]? = some x → τ.i 2189 j = Int32.ofNat x) ∧ τ.i 0 108 = Int32.ofNat (meS W (L.filter (akB W)))
theorem CoS.ge {L : List Nat} (h : CoS W L σ) (g : GF E σ τ) (h1 : ∀ j, ¬ E 2186 j) (h2 : ∀ j, ¬ E 2189 j) (h3 : ∀ j, j = 102 ∨ j = 107 ∨ j = 108 → ¬ E 0 j) : CoS W L τ := by
  obtain ⟨⟨a1, a2⟩, ⟨a3, a4⟩, a5⟩ := h
  refine ⟨⟨(g.2.2.1 0 102 (h3 102 (by decide)) (by decide) (by decide) (by decide)).trans a1, fun j x hx => ?_⟩, ⟨(g.2.2.1 0 107 (h3 107 (by decide)) (by decide) (by decide) (by decide)).trans a3, fun j x hx => ?_⟩, (g.2.2.1 0 108 (h3 108 (by decide)) (by decide) (by decide) (by decide)).trans a5⟩
  · rw [g.row h1 (by decide) (by decide) (by decide)]
    exact a2 j x hx
  · rw [g.row h2 (by decide) (by decide) (by decide)]
    exact a4 j x hx
theorem snoc_get {L : List Nat} {y j x : Nat} (h : (L ++ [y])[j]? = some x) : (j < L.length ∧ L[j]? = some x) ∨ (j = L.length ∧ x = y) := by
  by_cases q : j < L.length
  · rw [List.getElem?_append_left q] at h
    exact Or.inl ⟨q, h⟩
  · rw [List.getElem?_append_right (by omega)] at h
    have hj : j - L.length < 1 := (List.getElem?_eq_some_iff.mp h).1
    have e : j = L.length := by omega
    rw [e, Nat.sub_self] at h
    cases h
    exact Or.inr ⟨e, rfl⟩
/-- collect() -/
theorem rf_collect (hW : WfW W) (hd : 40 ≤ d) (H : NwS W lst b wy σ) (hMn : MnS σ W.2.1.length (mcW W.2.2.2) (gnW W.2.2.2) (W.2.2.2.length + 1)) (hc : c < W.2.1.length) (hk : KnS 2185 k W.1.length (plW W.2.1 c) σ) (h : ∀ τ, FX ΦR τ.sh τ.r → GF (fun a j => (a = 0 ∧ (j = 102 ∨ j = 107 ∨ j = 108)) ∨ a = 2186 ∨ a = 2189) σ τ → τ.i 2069 = σ.i 2069 → τ.i 2070 = σ.i 2070 → CoS W (stW W c k W.2.2.2.length) τ → K (.inl none) τ) : B_X23_collect_0 Z d σ (Int32.ofNat c) K := by
  obtain ⟨d, rfl⟩ : ∃ e, d = e + 3 := ⟨d - 3, by omega⟩
  have hc24 := H.2.1.2.1.2.1
  have h120 := H.2.2.1.2
  have ibc : ib (Int32.ofNat c) 24 := ib_oN (by omega) (by decide)
  generalize hE0 : (fun a j => (a = 0 ∧ (j = 102 ∨ j = 107 ∨ j = 108)) ∨ a = 2186 ∨ a = 2189) = E0 at h
  have E0i : ∀ a j, E0 a j ↔ ((a = 0 ∧ (j = 102 ∨ j = 107 ∨ j = 108)) ∨ a = 2186 ∨ a = 2189) := fun a j => by rw [← hE0]
  have hE : ∀ a j, E0 a j → nwE a j := fun a j q => by
    rw [E0i] at q
    unfold nwE
    omega
  have loop : ∀ r m τ, W.2.2.2.length - m = r → m ≤ W.2.2.2.length → GF E0 σ τ → FX ΦR τ.sh τ.r → τ.i 2069 = σ.i 2069 → τ.i 2070 = σ.i 2070 → CoS W (stW W c k m) τ → B_X23_collect_17 Z (d + 3) τ (Int32.ofNat c) (Int32.ofNat (m + 1)) K := by
    intro r
    induction r with
    | zero =>
      intro m τ hr hm g F x1 x2 C
      have e : m = W.2.2.2.length := by omega
      subst e
      have Hτ := H.ge g hE F
      exact S_X23_collect_17 F ⟨fun _ => h τ F g x1 x2 C, fun z => absurd (by rw [Hτ.2.2.1.1, oN_lt (by omega) (by omega)]; omega) z⟩
    | succ r ih =>
      intro m τ hr hm g F x1 x2 C
      have Hτ := H.ge g hE F
      have kτ := hk.ge g (fun j q => by rw [E0i] at q; omega)
      have hm1 : 1 ≤ m + 1 ∧ m + 1 ≤ W.2.2.2.length := by omega
      have es := stW_s W c k m
      have hlen := stW_len W c k m
      have hcl := List.length_filter_le (akB W) (stW W c k m)
      have skip : ∀ υ, υ = τ → pnB W c k (m + 1) = false → B_X23_collect_17 Z (d + 3) υ (Int32.ofNat c) (Int32.ofNat (m + 1) + 1) K := by
        rintro υ rfl hf
        rw [hf] at es
        have es : stW W c k (m + 1) = stW W c k m := es.trans (List.append_nil _)
        rw [oN_1]
        exact ih (m + 1) υ (by omega) (by omega) g F x1 x2 (by rw [es]; exact C)
      have psh : τ.sh[1905 + 1 + c]? = some (Sh.arr 1 2) := F.s (kE_1905 (by omega))
      obtain ⟨⟨y1, y2⟩, ⟨y3, y4⟩⟩ := Hτ.mt2 hW hm1.1 hm1.2
      have hl8 := Hτ.2.1.2.2.2.1
      refine S_X23_collect_17 F ⟨fun z => ?_, fun _ => ⟨ib_oN (by omega) (by decide), ibc, ?_⟩⟩
      · exfalso
        rw [Hτ.2.2.1.1, oN_lt (by omega) (by omega)] at z
        omega
      · rw [oN_t (by omega)]
        refine rf_has (d := d + 1) F psh (by omega) ?_
        have hmn : st2 τ (1905 + 1 + c) (m + 1) = mnB W.2.2.2 c (m + 1) := by
          have e1 := hMn c (m + 1) hc (by omega) (by omega)
          have e2 : st2 τ (1905 + 1 + c) (m + 1) = st2 σ (1905 + 1 + c) (m + 1) := by
            unfold st2
            rw [g.2.2.2 (1905 + 1 + c) (by omega)]
          rw [e2, Bool.eq_iff_iff, e1]
          unfold mnB
          rw [Bool.and_eq_true, decide_eq_true_eq, decide_eq_true_eq]
          exact ⟨fun q => q.2, fun q => ⟨by omega, q⟩⟩
        rw [hmn]
        by_cases qm : mnB W.2.2.2 c (m + 1) = true
        · rw [if_pos qm]
          have hmc : mcW W.2.2.2 (m + 1) = c := by
            unfold mnB at qm
            rw [Bool.and_eq_true] at qm
            exact of_decide_eq_true qm.2
          refine ⟨fun z => absurd z (by decide), fun _ => ?_⟩
          rw [oN_t (by omega), y3, y1]
          refine ⟨fun z => skip τ rfl ?_, fun z => ⟨fun w => skip τ rfl ?_, fun w => ?_⟩⟩
          · have : rlM W.2.2.2 (m + 1) ≠ 0 := fun q => z (by rw [q]; rfl)
            unfold pnB
            rw [decide_eq_false this, Bool.and_false, Bool.false_and, Bool.false_and]
          · rw [Int32.le_iff_toInt_le, oI_i (by omega) (by omega)] at w
            have w : 0 ≤ lyM W.2.2.2 (m + 1) := w
            unfold pnB
            rw [decide_eq_false (show ¬ lyM W.2.2.2 (m + 1) < 0 by omega), Bool.and_false, Bool.false_and]
          · rw [show (0 : Int32) = Int32.ofNat 0 from rfl, oN_eq (by omega) (by omega)] at z
            rw [Int32.le_iff_toInt_le, oI_i (by omega) (by omega)] at w
            have w : ¬ 0 ≤ lyM W.2.2.2 (m + 1) := w
            refine rf_fits (d := d + 1) hW Hτ hm1 kτ.1.1 (k := k) (by rw [hmc]; exact kτ.2.1) ?_
            by_cases qf : ftB W (m + 1) k = true
            · rw [if_pos qf]
              have hpn : pnB W c k (m + 1) = true := by
                unfold pnB
                rw [qm, qf, decide_eq_true z, decide_eq_true (show lyM W.2.2.2 (m + 1) < 0 by omega)]
                rfl
              rw [if_pos hpn] at es
              refine ⟨fun _ => ⟨by rw [C.1.1]; exact ib_oN (by omega) (by decide), ibc, ?_⟩, fun q => absurd q (by decide)⟩
              rw [C.1.1, oN_t (by omega), oN_1 (stW W c k m).length]
              obtain ⟨ψ, hψ⟩ : ∃ x, x = (τ.wi 2186 (stW W c k m).length (Int32.ofNat (m + 1))).wi 0 102 (Int32.ofNat ((stW W c k m).length + 1)) := ⟨_, rfl⟩
              rw [← hψ]
              have gψ : GF E0 σ ψ := by
                rw [hψ]
                exact g.tr ((GF.wi (by rw [E0i]; omega)).tr (GF.wi (by rw [E0i]; omega)))
              have Fψ : FX ΦR ψ.sh ψ.r := by rw [hψ]; exact F
              have Hψ := H.ge gψ hE Fψ
              have e5 : ψ.i (2409 + 3 * c) 1 = Int32.ofNat (plW W.2.1 (mcW W.2.2.2 (m + 1))) := by
                rw [hmc]
                exact (wyW_ok Hψ.2.1 hc).2.2
              rw [e5]
              have p102 : ψ.i 0 102 = Int32.ofNat ((stW W c k m).length + 1) := by rw [hψ, wi_at]
              have p2186 : ∀ j x, (stW W c k m ++ [m + 1])[j]? = some x → ψ.i 2186 j = Int32.ofNat x := fun j x hx => by
                rw [hψ, wi_ne (by omega)]
                rcases snoc_get hx with ⟨a1, a2⟩ | ⟨a1, a2⟩
                · rw [wi_ne (by omega)]
                  exact C.1.2 j x a2
                · rw [a1, a2, wi_at]
              have p107 : ψ.i 0 107 = τ.i 0 107 := by rw [hψ, wi_ne (by decide), wi_ne (by omega)]
              have p108 : ψ.i 0 108 = τ.i 0 108 := by rw [hψ, wi_ne (by decide), wi_ne (by omega)]
              have p2189 : ψ.i 2189 = τ.i 2189 := by rw [hψ, wi_row (by decide), wi_row (by decide)]
              have q1 : ψ.i 2069 = σ.i 2069 := by rw [hψ, wi_row (by decide), wi_row (by decide)]; exact x1
              have q2 : ψ.i 2070 = σ.i 2070 := by rw [hψ, wi_row (by decide), wi_row (by decide)]; exact x2
              refine rf_asks (d := d + 1) hW Hψ hm1.1 hm1.2 ?_
              have ef : (stW W c k (m + 1)).filter (akB W) = (stW W c k m).filter (akB W) ++ if akB W (m + 1) = true then [m + 1] else [] := by
                rw [es, List.filter_append, List.filter_cons]
                split <;> rfl
              by_cases qa : akB W (m + 1) = true
              · rw [if_pos qa]
                rw [if_pos qa] at ef
                obtain ⟨e4, e4', -⟩ := Hψ.me hW hm1.1 hm1.2
                refine ⟨fun _ => ⟨by rw [p107, C.2.1.1]; exact ib_oN (by omega) (by decide), ?_⟩, fun q => absurd q (by decide)⟩
                rw [p107, C.2.1.1, oN_t (by omega), oN_1 ((stW W c k m).filter (akB W)).length, oN_1 (m + 1), wi_ne (by omega), wi_ne (by omega), e4, p108, C.2.2, oN_add]
                refine ih (m + 1) _ (by omega) (by omega) (gψ.tr (((GF.wi (by rw [E0i]; omega)).tr (GF.wi (by rw [E0i]; omega))).tr (GF.wi (by rw [E0i]; omega)))) Fψ ?_ ?_ ?_
                · rw [wi_row (by decide), wi_row (by decide), wi_row (by decide)]
                  exact q1
                · rw [wi_row (by decide), wi_row (by decide), wi_row (by decide)]
                  exact q2
                · unfold CoS
                  rw [ef, es]
                  refine ⟨⟨?_, fun j x hx => ?_⟩, ⟨?_, fun j x hx => ?_⟩, ?_⟩
                  · rw [wi_ne (by omega), wi_ne (by omega), wi_ne (by omega), p102, List.length_append]
                    rfl
                  · rw [wi_ne (by omega), wi_ne (by omega), wi_ne (by omega)]
                    exact p2186 j x hx
                  · rw [wi_ne (by omega), wi_at, List.length_append]
                    rfl
                  · rw [wi_ne (by omega), wi_ne (by omega)]
                    rcases snoc_get hx with ⟨a1, a2⟩ | ⟨a1, a2⟩
                    · rw [wi_ne (by omega), p2189]
                      exact C.2.1.2 j x a2
                    · rw [a1, a2, wi_at]
                  · rw [wi_at]
                    unfold meS
                    rw [List.map_append, List.sum_append]
                    rfl
              · rw [if_neg qa]
                rw [if_neg qa, List.append_nil] at ef
                refine ⟨fun q => absurd rfl q, fun _ => ?_⟩
                rw [oN_1]
                refine ih (m + 1) ψ (by omega) (by omega) gψ Fψ q1 q2 ?_
                unfold CoS
                rw [ef, es]
                refine ⟨⟨?_, p2186⟩, ⟨by rw [p107]; exact C.2.1.1, fun j x hx => by rw [p2189]; exact C.2.1.2 j x hx⟩, by rw [p108]; exact C.2.2⟩
                rw [p102, List.length_append]
                rfl
            · rw [if_neg qf]
              refine ⟨fun q => absurd rfl q, fun _ => skip τ rfl ?_⟩
              unfold pnB
              rw [Bool.eq_false_iff.mpr qf, Bool.and_false]
        · rw [if_neg qm]
          refine ⟨fun _ => skip τ rfl ?_, fun z => absurd rfl z⟩
          unfold pnB
          rw [Bool.eq_false_iff.mpr qm, Bool.false_and, Bool.false_and, Bool.false_and]
  refine S_X23_collect_0 H.1 ?_
  obtain ⟨σ1, hσ1⟩ : ∃ x, x = ((σ.wi 0 102 (0 : Int32)).wi 0 107 (0 : Int32)).wi 0 108 (0 : Int32) := ⟨_, rfl⟩
  rw [← hσ1]
  have := loop W.2.2.2.length 0 σ1 (by omega) (Nat.zero_le _) (by
    rw [hσ1]
    exact ((GF.wi (by rw [E0i]; omega)).tr (GF.wi (by rw [E0i]; omega))).tr (GF.wi (by rw [E0i]; omega))) (by rw [hσ1]; exact H.1) (by rw [hσ1, wi_row (by decide), wi_row (by decide), wi_row (by decide)]) (by rw [hσ1, wi_row (by decide), wi_row (by decide), wi_row (by decide)]) ⟨⟨by rw [hσ1, wi_ne (by decide), wi_ne (by decide), wi_at]; rfl, fun j x hx => by cases hx⟩, ⟨by rw [hσ1, wi_ne (by decide), wi_at]; rfl, fun j x hx => by cases hx⟩, by rw [hσ1, wi_at]; rfl⟩
  exact this
end JUDGE1

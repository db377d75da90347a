/-! THE CLASS: the methods that fit, as a list -/
/-- those of call c that fit -/
def ftL (W : Wld) (c : Nat) (k : Nat → Nat) : List Nat := ((List.range W.2.2.2.length).map (· + 1)).filter fun m => mnB W.2.2.2 c m && ftB W m k
theorem ftL_len (W : Wld) (c : Nat) (k : Nat → Nat) : (ftL W c k).length ≤ W.2.2.2.length := by
  unfold ftL
  exact Nat.le_trans (List.length_filter_le ..) (by rw [List.length_map, List.length_range]; exact Nat.le_refl _)
theorem ft_eq {W : Wld} {c : Nat} {k : Nat → Nat} (hl : W.2.2.2.length ≤ 120) {x : Int64 × Int64} (h : ∀ m, 1 ≤ m → m ≤ 128 → pb x m = (mnS W c m && (List.range (plW W.2.1 c)).all fun p => fiZ W p (k p) m)) : ((List.range 64).filter (tb x.1)).map (fun j => 64 * 0 + 1 + j) ++ ((List.range 64).filter (tb x.2)).map (fun j => 64 * 1 + 1 + j) = ftL W c k := by
  have e1 : ∀ b, b < 64 → tb x.1 b = pb x (b + 1) := fun b hb => by
    unfold pb
    rw [if_pos (by omega), show (b + 1 - 1) % 64 = b by omega]
  have e2 : ∀ b, b < 64 → tb x.2 b = pb x (64 + b + 1) := fun b hb => by
    unfold pb
    rw [if_neg (by omega), show (64 + b + 1 - 1) % 64 = b by omega]
  have s0 : ((List.range 128).filter fun j => pb x (j + 1)).map (· + 1) = ((List.range 64).filter (tb x.1)).map (fun j => 64 * 0 + 1 + j) ++ ((List.range 64).filter (tb x.2)).map (fun j => 64 * 1 + 1 + j) := by
    rw [show (128 : Nat) = 64 + 64 from rfl, List.range_add, List.filter_append, List.map_append]
    congr 1
    · rw [List.filter_congr (fun b hb => (e1 b (List.mem_range.mp hb)).symm)]
      refine List.map_congr_left (fun j _ => ?_)
      omega
    · rw [List.filter_map, List.map_map, List.filter_congr (p := (fun j => pb x (j + 1)) ∘ fun x => 64 + x) (q := tb x.2) (fun b hb => (e2 b (List.mem_range.mp hb)).symm)]
      refine List.map_congr_left (fun j _ => ?_)
      show 64 + j + 1 = _
      omega
  have pe : ∀ j, pb x (j + 1) = true → j < 128 → j < W.2.2.2.length := fun j q hj => by
    rw [h (j + 1) (by omega) (by omega)] at q
    have q := (Bool.and_eq_true_iff.mp q).1
    unfold mnS at q
    have := of_decide_eq_true (Bool.and_eq_true_iff.mp (Bool.and_eq_true_iff.mp q).1).1
    omega
  have s1 : (List.range 128).filter (fun j => pb x (j + 1)) = (List.range W.2.2.2.length).filter (fun j => pb x (j + 1)) := by
    rw [show 128 = W.2.2.2.length + (128 - W.2.2.2.length) by omega, List.range_add, List.filter_append]
    conv => rhs; rw [← List.append_nil ((List.range W.2.2.2.length).filter _)]
    congr 1
    refine List.filter_eq_nil_iff.mpr (fun b hb q => ?_)
    obtain ⟨i, hi, rfl⟩ := List.mem_map.mp hb
    have hi := List.mem_range.mp hi
    have := pe _ q (by omega)
    omega
  rw [← s0, s1]
  unfold ftL
  rw [List.filter_map]
  congr 1
  refine List.filter_congr (fun j hj => ?_)
  have hj := List.mem_range.mp hj
  rw [h (j + 1) (by omega) (by omega)]
  show _ = (mnB W.2.2.2 c (j + 1) && ftB W (j + 1) k)
  unfold mnS mnB ftB fiZ
  rw [decide_eq_true (show j + 1 < W.2.2.2.length + 1 by omega), Bool.true_and]
  rw [Bool.eq_iff_iff]
  simp only [Bool.and_eq_true, decide_eq_true_iff, List.all_eq_true, List.mem_range, true_and]
  constructor
  · rintro ⟨⟨a1, a2⟩, a3⟩
    refine ⟨⟨a1, a2⟩, fun i hi => ?_⟩
    rw [a2] at hi
    exact decide_eq_true (a3 i hi).2
  · rintro ⟨⟨a1, a2⟩, a3⟩
    refine ⟨⟨a1, a2⟩, fun i hi => ?_⟩
    rw [a2] at a3 ⊢
    exact ⟨⟨a1, hi⟩, of_decide_eq_true (a3 i hi)⟩
section LISTF
variable {Z : zT} {d A u : Nat} {σ σ0 τ υ : Sg} {K : kS} {C : Nat × Nat × Nat × Nat} {W : Wld} {wy a0 kA oA c : Nat} {k : Nat → Nat} {x : Int64 × Int64} {L : List Nat}
/-- a list in a row -/
def RoS (oA : Nat) (L : List Nat) (σ : Sg) : Prop := ∀ (i y : Nat), L[i]? = some y → σ.i oA i = Int32.ofNat y
theorem lf_105 {w n0 : Nat} (F : FX ΦC σ.sh σ.r) (hs : σ.sh[oA]? = some (Sh.arr 0 120)) (hw : w < 2) (hL : L.length ≤ 120) (R : List Nat) (kk : ∀ τ D, XF (fun a => a = oA) σ τ → RoS oA D τ → D ++ R = L → C_X11_listFor_82 Z (d + 3) τ oA x.1 x.2 (Int32.ofNat D.length) (Int32.ofNat (w + 1)) K) : ∀ (n i : Nat) (b : Int64) (D : List Nat) (τ : Sg), ((List.range 64).filter (tb b)).length = n → i + n ≤ 64 → XF (fun a => a = oA) σ τ → RoS oA D τ → D ++ (((List.range 64).filter (tb b)).map (fun j => 64 * w + 1 + j) ++ R) = L → C_X11_listFor_105 Z (d + 3) τ oA x.1 x.2 (Int32.ofNat D.length) (Int32.ofNat w) b (Int32.ofNat i) K := by
  intro n
  induction n with
  | zero =>
    intro i b D τ hn hi g hD hT
    have e0 := List.length_eq_zero_iff.mp hn
    rw [e0, List.map_nil, List.nil_append] at hT
    have b0 : b = 0 := tb_eq0.mpr (fun j hj => by
      have := List.filter_eq_nil_iff.mp e0 j (List.mem_range.mpr hj)
      exact Bool.eq_false_iff.mpr this)
    refine T_X11_listFor_105 (g.fx F) ?_
    rw [oN_1]
    exact ⟨fun _ => kk τ D g hD hT, fun _ => ⟨fun _ => kk τ D g hD hT, fun z => absurd (cmpE.mpr b0) z⟩⟩
  | succ n ih =>
    intro i b D τ hn hi g hD hT
    -- the lowest bit
    obtain ⟨t, ht, h1, h2⟩ : ∃ t, t < 64 ∧ tb b t = true ∧ ∀ j, j < t → tb b j = false := by
      cases e : (List.range 64).filter (tb b) with
      | nil =>
        rw [e] at hn
        cases hn
      | cons a r =>
        have ha : a ∈ (List.range 64).filter (tb b) := by rw [e]; exact List.mem_cons_self ..
        obtain ⟨a1, a2⟩ := List.mem_filter.mp ha
        have a1 := List.mem_range.mp a1
        have ex : ∀ m, (∃ t, t ≤ m ∧ tb b t = true) → ∃ t, t ≤ m ∧ tb b t = true ∧ ∀ j, j < t → tb b j = false := by
          intro m
          induction m with
          | zero =>
            rintro ⟨t, t1, t2⟩
            exact ⟨t, t1, t2, fun j hj => by omega⟩
          | succ m ihm =>
            rintro ⟨t, t1, t2⟩
            by_cases q : ∃ t, t ≤ m ∧ tb b t = true
            · obtain ⟨t', q1, q2⟩ := ihm q
              exact ⟨t', by omega, q2⟩
            · exact ⟨t, t1, t2, fun j hj => Bool.eq_false_iff.mpr (fun z => q ⟨j, by omega, z⟩)⟩
        obtain ⟨t, t1, t2⟩ := ex a ⟨a, Nat.le_refl _, a2⟩
        exact ⟨t, by omega, t2⟩
    have el := tz_list (p := tb b) (p' := tb (b &&& (b - (1 : Int64)))) ht h1 h2 (fun j hj => tz_and ht h1 h2 hj)
    rw [el, List.length_cons] at hn
    rw [el, List.map_cons] at hT
    have bz : ¬ b = 0 := fun q => by
      rw [q, tb_0] at h1
      cases h1
    have dl : D.length < 120 := by
      rw [← hT, List.length_append, List.length_append, List.length_cons] at hL
      omega
    refine T_X11_listFor_105 (g.fx F) ?_
    rw [show (64 : Int32) ≤ Int32.ofNat i ↔ 64 ≤ i from oN_le (a := 64) (by decide) (by omega)]
    refine ⟨fun z => absurd z (by omega), fun _ => ⟨fun z => absurd (cmpE.mp z) bz, fun _ => ⟨120, by rw [g.1]; exact hs, fun z => ?_, fun _ => ?_⟩⟩⟩
    · rw [oN_le (by decide) (by omega)] at z
      omega
    · refine cl_tz (g.fx F) ht h1 h2 ⟨120, by rw [g.1]; exact hs, ib_oN dl (by decide), ?_⟩
      rw [oN_t (by omega), oN_1, oN_1, show (64 : Int32) = Int32.ofNat 64 from rfl, oN_mul, oN_1, oN_add]
      have := ih (i + 1) (b &&& (b - (1 : Int64))) (D ++ [64 * w + 1 + t]) (τ.wi oA D.length (Int32.ofNat (64 * w + 1 + t))) (by omega) (by omega) (g.wi rfl) (fun j y hy => ?_) (by rw [List.append_assoc]; exact hT)
      · rw [List.length_append, List.length_singleton] at this
        exact this
      · by_cases q : j < D.length
        · rw [List.getElem?_append_left q] at hy
          rw [wi_ne (by omega)]
          exact hD j y hy
        · rw [List.getElem?_append_right (by omega)] at hy
          have jl := (List.getElem?_eq_some_iff.mp hy).1
          rw [List.length_singleton] at jl
          have je : j = D.length := by omega
          subst je
          rw [Nat.sub_self] at hy
          cases hy
          exact wi_at ..
theorem cl_listFor (h : QwS C W wy a0 σ) (hc : c < W.2.1.length) (ka : KaS W kA (plW W.2.1 c) k σ) (hs : σ.sh[oA]? = some (Sh.arr 0 120)) (kk : ∀ τ, XF (fun a => a = oA) σ τ → RoS oA (ftL W c k) τ → K (.inl (some (.int (Int32.ofNat (ftL W c k).length)))) τ) : C_X11_listFor_0 Z (d + 3) σ (Int32.ofNat c) kA oA K := by
  obtain ⟨c24, ec, p1, p3⟩ := h.cx hc
  have l24 := h.1.2.1.2.1
  have ml := h.1.2.2.2.2.1.2.1
  have fl := ftL_len W c k
  -- the pairs
  have lp : ∀ (r p : Nat) (x : Int64 × Int64), p + r = plW W.2.1 c → (∀ m, 1 ≤ m → m ≤ 128 → pb x m = (mnS W c m && (List.range p).all fun p => fiZ W p (k p) m)) → C_X11_listFor_19 Z (d + 3) σ (Int32.ofNat c) kA oA x.1 x.2 (Int32.ofNat p) K := by
    intro r
    induction r with
    | zero =>
      intro p x hp hx
      have ep : p = plW W.2.1 c := by omega
      subst ep
      have fe := ft_eq (W := W) (c := c) (k := k) ml hx
      refine T_X11_listFor_19 h.1.1 ?_
      rw [oN_t (by omega), ec]
      refine ⟨ib_oN c24 (by decide), fun _ => ?_, fun z => absurd (Int32.le_refl _) z⟩
      refine T_X11_listFor_82 h.1.1 ⟨fun z => absurd z (by decide), fun _ => ⟨fun z => absurd rfl z, fun _ => ?_⟩⟩
      refine lf_105 (w := 0) (n0 := 0) (x := x) (L := ftL W c k) h.1.1 hs (by decide) (by omega) (((List.range 64).filter (tb x.2)).map (fun j => 64 * 1 + 1 + j)) (fun τ D g hD hT => ?_) _ 0 x.1 [] σ rfl (by
        have := List.length_filter_le (tb x.1) (List.range 64)
        rw [List.length_range] at this
        omega) (XF.refl _ _) (fun i y q => by cases q) (by rw [List.nil_append]; exact fe)
      refine T_X11_listFor_82 (g.fx h.1.1) ⟨fun z => absurd z (by decide), fun _ => ⟨fun _ => ?_, fun z => absurd z (by decide)⟩⟩
      refine lf_105 (w := 1) (n0 := 0) (x := x) (L := ftL W c k) (g.fx h.1.1) (by rw [g.1]; exact hs) (by decide) (by omega) [] (fun τ' D' g' hD' hT' => ?_) _ 0 x.2 D τ rfl (by
        have := List.length_filter_le (tb x.2) (List.range 64)
        rw [List.length_range] at this
        omega) (XF.refl _ _) hD (by rw [List.append_nil]; exact hT)
      rw [List.append_nil] at hT'
      subst hT'
      exact T_X11_listFor_82 (g'.fx (g.fx h.1.1)) ⟨fun _ => kk τ' (g.tr g') hD', fun z => absurd (by decide) z⟩
    | succ r ih =>
      intro p x hp hx
      obtain ⟨⟨nn, n3, hsh⟩, hkk⟩ := id ka
      obtain ⟨kp, kl⟩ := hkk p (by omega)
      refine T_X11_listFor_19 h.1.1 ?_
      rw [oN_t (by omega), ec, oN_le (by omega) (by omega), oN_t (by omega), kp, show (24 : Int32) = Int32.ofNat 24 from rfl, oN_mul, oN_add, oN_t (by omega), oN_1]
      have ibp : ib (Int32.ofNat p) nn := ib_i (by rw [oN_i (by omega)]; omega) (by rw [oN_i (by omega)]; omega)
      refine ⟨ib_oN c24 (by decide), fun z => absurd z (by omega), fun _ => ⟨nn, hsh, ibp, ib_oN (by omega) (by decide), ibp, ib_oN (by omega) (by decide), ?_⟩⟩
      refine ih (p + 1) (anP x (fpC σ p (k p))) (by omega) (fun m m1 m2 => ?_)
      rw [pb_an, hx m m1 m2, pb_fp h (by omega) kl m1 m2, List.range_succ, List.all_append, Bool.and_assoc]
      simp
  refine T_X11_listFor_0 h.1.1 ?_
  rw [oN_t (by omega)]
  refine ⟨ib_oN c24 (by decide), ib_oN c24 (by decide), lp _ 0 (σ.l 34 c, σ.l 35 c) (Nat.zero_add _) (fun m m1 m2 => ?_)⟩
  rw [h.2.2.2.1.2.1 c c24 m m1 m2, List.range_zero, List.all_nil, Bool.and_true]
end LISTF

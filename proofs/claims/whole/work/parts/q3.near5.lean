/-! THE CLASS: nearer -/
section NEARC
variable {Z : zT} {d : Nat} {B : Nat × Nat × Nat × Nat × Nat} {C V V' : Nat × Nat × Nat × Nat} {a u u' A m ver : Nat} {W W' : Wld} {pg pg' : Ast} {t t' : Nat → Int32} {n n' wy ch ch' fuel fuel' rs : Nat} {rn rn' : Option (Rs × Es)} {res res' : List Nat} {q q' : Nat} {σ τ υ : Sg} {K : kS} {E : Nat → Prop} {S : Es} {e1 e2 : String}
theorem thB_x {v : Int32} (hW : WfW W) (h : thB W v = true) : ∃ j x, v = Int32.ofNat (j + 1) ∧ v.toInt.toNat = j + 1 ∧ W.2.2.2[j]? = some x ∧ x.2 = false ∧ (∃ k : Nat, x.1.1 = k ∧ k < W.2.1.length ∧ mcW W.2.2.2 (j + 1) = k) := by
  unfold thB at h
  simp only [Bool.and_eq_true, decide_eq_true_eq] at h
  obtain ⟨⟨h1, h2⟩, h3⟩ := h
  have hx : W.2.2.2[v.toInt.toNat - 1]? = some (W.2.2.2[v.toInt.toNat - 1]'(by omega)) := List.getElem?_eq_getElem _
  have en : v.toInt.toNat - 1 + 1 = v.toInt.toNat := by omega
  refine ⟨v.toInt.toNat - 1, _, ?_, by omega, hx, ?_, ?_⟩
  · rw [en]
    exact i_oN (by omega)
  · unfold gnW at h3
    rw [hx] at h3
    dsimp only at h3
    cases z : (W.2.2.2[v.toInt.toNat - 1]'(by omega)).2
    · rfl
    · rw [z] at h3
      exact absurd h3 (by decide)
  · obtain ⟨k, w1, w2, -⟩ := hW.2.2 _ (List.mem_of_getElem? hx)
    refine ⟨k, w1, w2, ?_⟩
    unfold mcW
    rw [Nat.add_sub_cancel, hx]
    show (W.2.2.2[v.toInt.toNat - 1]'(by omega)).1.1.toNat = k
    rw [w1]
    rfl
theorem cl_there {v : Int32} (h : ClX B C V a u A m ver W pg t n wy ch fuel rs rn res q σ) (hW : WfW W) (k0 : thB W v = false → K (.inl (some (.int 0))) σ) (k1 : thB W v = true → K (.inl (some (.int 1))) σ) : C_X5_isThere_0 Z (d + 1) σ v K := by
  obtain ⟨m1, m2, -, -, mm⟩ := h.1.2.2.2.1
  have f : ∀ p : Prop, ∀ i : Decidable p, ¬ p → @decide p i = false := fun p i z => @decide_eq_false p i z
  refine T_X5_isThere_0 h.fx ⟨fun z => k0 ?_, fun z => ⟨fun z2 => k0 ?_, fun z2 => ?_⟩⟩
  · rw [show (1 : Int32) = Int32.ofNat 1 from rfl, (i32_le_k v 1 (by decide)).2] at z
    unfold thB
    rw [f (1 ≤ v.toInt) _ (by omega)]
    rfl
  · rw [m1, (i32_le_k v _ (by omega)).1] at z2
    unfold thB
    rw [f (v.toInt ≤ W.2.2.2.length) _ (by omega), Bool.and_false]
    rfl
  · rw [show (1 : Int32) = Int32.ofNat 1 from rfl, (i32_le_k v 1 (by decide)).2] at z
    rw [m1, (i32_le_k v _ (by omega)).1] at z2
    have ev : v = Int32.ofNat v.toInt.toNat := i_oN (by omega)
    have hx : W.2.2.2[v.toInt.toNat - 1]? = some (W.2.2.2[v.toInt.toNat - 1]'(by omega)) := List.getElem?_eq_getElem _
    obtain ⟨k, w1, w2, -⟩ := hW.2.2 _ (List.mem_of_getElem? hx)
    have t1 := (mm _ _ hx).1
    rw [show v.toInt.toNat - 1 + 1 = v.toInt.toNat by omega] at t1
    refine ⟨by rw [ev]; exact ib_oN (by omega) (by decide), ?_⟩
    rw [show v.toNatClampNeg = v.toInt.toNat from rfl, t1]
    have l24 := h.1.1.2.2.2.2.2.1.2.1
    cases g : (W.2.2.2[v.toInt.toNat - 1]'(by omega)).2 with
    | true =>
      rw [if_pos rfl]
      refine ⟨fun _ => k0 ?_, fun y => absurd (by decide) y⟩
      unfold thB
      rw [f (gnW W.2.2.2 v.toInt.toNat = 0) _ ?_, Bool.and_false]
      unfold gnW
      rw [hx]
      dsimp only
      rw [g]
      decide
    | false =>
      rw [if_neg (by decide), w1]
      refine ⟨fun y => absurd y ?_, fun _ => k1 ?_⟩
      · show ¬ Int32.ofNat k < Int32.ofNat 0
        rw [oN_lt (by omega) (by decide)]
        omega
      · unfold thB
        rw [decide_eq_true (show 1 ≤ v.toInt by omega), decide_eq_true (show v.toInt ≤ W.2.2.2.length by omega), decide_eq_true ?_]
        · rfl
        · unfold gnW
          rw [hx]
          dsimp only
          rw [g]
          rfl
/-- whether a method fits kinds -/
theorem cl_fits {j kA pl : Nat} {x : Mtd × Bool} {k : Nat → Nat} {c : Nat} (h : SkR C W a σ) (ka : KaS W kA pl k σ) (hx : W.2.2.2[j]? = some x) (hg : x.2 = false) (hc : x.1.1 = (c : Int)) (hc' : c < W.2.1.length) (hpl : plW W.2.1 c = pl) (kk : K (.inl (some (.int (if ftB W (j + 1) k = true then 1 else 0)))) σ) : C_X11_fits_0 Z (d + 2) σ (Int32.ofNat (j + 1)) kA K := by
  have hm := h.2.2.2.2.1
  have jl := (List.getElem?_eq_some_iff.mp hx).1
  have m120 := hm.2.1
  have t1 := (hm.2.2.2.2 j x hx).1
  rw [hg, if_neg (by decide), hc] at t1
  have t1 : σ.i 11 (j + 1) = Int32.ofNat c := t1
  have k24 := h.2.1.2.1
  have c24 := h.2.2.2.1.1
  have emc : mcW W.2.2.2 (j + 1) = c := by
    unfold mcW
    rw [Nat.add_sub_cancel, hx]
    show x.1.1.toNat = c
    rw [hc]
    rfl
  have e31 : σ.i 31 c = Int32.ofNat pl := by
    have e : W.2.1[c]? = some W.2.1[c] := List.getElem?_eq_getElem hc'
    rw [(h.2.2.2.1.2 c _ e).1, ← hpl]
    unfold plW
    rw [e]
    rfl
  have p3 := plW_ok h.2.2.2.2.2.1.2.1 hc'
  rw [hpl] at p3
  obtain ⟨⟨n3, n3', sh3⟩, kv⟩ := ka
  unfold ftB at kk
  rw [emc, hpl] at kk
  have lp : ∀ r p, p + r = pl → (∀ i, i < p → blW W.1 (k i) (kdW W.2.2.2 (j + 1) i) = true) → C_X11_fits_13 Z (d + 2) σ (Int32.ofNat (j + 1)) kA (Int32.ofNat c) (Int32.ofNat p) K := by
    intro r
    induction r with
    | zero =>
      intro p hp ok
      have hp : p = pl := by omega
      subst hp
      refine T_X11_fits_13 h.1 ?_
      rw [oN_t (by omega), e31]
      refine ⟨ib_oN (by omega) (by decide), fun _ => ?_, fun z => absurd (Int32.le_refl _) z⟩
      rw [if_pos (List.all_eq_true.mpr (fun i hi => ok i (List.mem_range.mp hi)))] at kk
      exact kk
    | succ r ih =>
      intro p hp ok
      obtain ⟨kv1, kv2⟩ := kv p (by omega)
      obtain ⟨d1, d2, -⟩ := kd_at h hx (p := p) (by omega)
      refine T_X11_fits_13 h.1 ?_
      rw [oN_t (by omega), e31, oN_le (by omega) (by omega)]
      refine ⟨ib_oN (by omega) (by decide), fun z => absurd z (by omega), fun _ => ⟨n3, sh3, ib_i (by rw [oN_i (by omega)]; omega) (by rw [oN_i (by omega)]; omega), ?_⟩⟩
      have ix : Int32.ofNat (j + 1) * 3 + Int32.ofNat p = Int32.ofNat (3 * (j + 1) + p) := by
        rw [show (3 : Int32) = Int32.ofNat 3 from rfl, oN_mul, oN_add, Nat.mul_comm]
      rw [ix, oN_t (by omega), oN_t (by omega), kv1, d1]
      refine ⟨ib_oN (by omega) (by decide), cl_below h kv2 d2 ?_⟩
      by_cases z : kdW W.2.2.2 (j + 1) p ∈ rwW W.1 1 (k p)
      · rw [if_pos z]
        refine ⟨fun _ => ?_, fun y => absurd y (by decide)⟩
        rw [oN_1]
        refine ih (p + 1) (by omega) (fun i hi => ?_)
        by_cases y : i = p
        · rw [y]
          exact decide_eq_true z
        · exact ok i (by omega)
      · rw [if_neg z]
        refine ⟨fun y => absurd rfl y, fun _ => ?_⟩
        rw [if_neg (fun y => z (of_decide_eq_true (List.all_eq_true.mp y p (List.mem_range.mpr (by omega)))))] at kk
        exact kk
  refine T_X11_fits_0 h.1 ?_
  rw [oN_t (by omega), t1]
  exact ⟨ib_oN (by omega) (by decide), lp pl 0 (Nat.zero_add _) (fun i hi => absurd hi (Nat.not_lt_zero _))⟩
theorem cc_nearer {m' n' x y z : Int32} (h8 : 10 ≤ d) (hW : PuW W) (h : ClA W pg t n wy ch fuel rs rn res q σ) (hK : CAns K (ClA W pg t n wy ch fuel rs rn res (q + 1)) xIo xIa (neA W wy m' n' x y z)) : C_X12_nearer_0 Z (d + 1) σ m' n' x y z K := by
  have h0 := h
  have hj := hW.2.2.2.2
  have hWf := hW.1.1
  obtain ⟨d, rfl⟩ : ∃ e, d = e + 4 := ⟨d - 4, by omega⟩
  obtain ⟨B, C, V, a, u, A, m, ver, h⟩ := h
  have F := h.fx
  have hl := F.len
  unfold neA at hK
  refine T_X12_nearer_0 F (by omega) (cl_there h hWf (fun e => ⟨fun _ => ?_, fun y => absurd rfl y⟩) (fun t1 => ⟨fun y => absurd y (by decide), fun _ => cl_there h hWf (fun e => ⟨fun y => absurd rfl y, fun _ => ?_⟩) (fun t2 => ⟨fun _ => ?_, fun y => absurd y (by decide)⟩)⟩))
  · rw [if_pos (fun q => by rw [e] at q; exact absurd q.1 (by decide))] at hK
    exact cc_1 h0 hK
  · rw [if_pos (fun q => by rw [e] at q; exact absurd q.2 (by decide))] at hK
    exact cc_1 h0 hK
  · rw [if_neg (fun q => q ⟨t1, t2⟩)] at hK
    obtain ⟨j, X, ev, en, hx, hg, k, hc1, hc2, hmc⟩ := thB_x hWf t1
    obtain ⟨j', X', ev', en', hx', hg', k', hc1', hc2', hmc'⟩ := thB_x hWf t2
    rw [en, en', hmc, hmc'] at hK
    subst ev
    subst ev'
    have jl := (List.getElem?_eq_some_iff.mp hx).1
    have jl' := (List.getElem?_eq_some_iff.mp hx').1
    obtain ⟨mm1, m120, -, -, mm⟩ := h.1.2.2.2.1
    have at1 : σ.i 11 (j + 1) = Int32.ofNat k := by
      rw [(mm j X hx).1, hg, if_neg (by decide), hc1]
      rfl
    have at2 : σ.i 11 (j' + 1) = Int32.ofNat k' := by
      rw [(mm j' X' hx').1, hg', if_neg (by decide), hc1']
      rfl
    have c24 := h.1.1.2.2.2.2.2.1.2.1
    have k24 := h.1.1.2.2.2.2.1.2.1
    have hpl := plW_ok hWf.2.1 hc2
    have e31 : σ.i 31 k = Int32.ofNat (plW W.2.1 k) := by
      have e : W.2.1[k]? = some W.2.1[k] := List.getElem?_eq_getElem hc2
      rw [(h.1.1.2.2.2.2.2.1.2.2.2.2 k _ e).1]
      unfold plW
      rw [e]
      rfl
    rw [oN_t (by omega), at1, oN_t (by omega), e31]
    refine ⟨ib_oN (by omega) (by decide), ib_oN (by omega) (by decide), ?_⟩
    obtain ⟨σ1, hσ1⟩ : ∃ s, s = (((σ.wi 99 0 x).wi 99 1 y).wi 99 2 z) := ⟨_, rfl⟩
    rw [← hσ1]
    have g1 : XF (fun b => b = 99) σ σ1 := by
      rw [hσ1]
      exact (((XF.refl (fun b => b = 99) σ).wi (a := 99) rfl).wi (a := 99) rfl).wi (a := 99) rfl
    have e99 : ∀ p, p < 3 → σ1.i 99 p = kn3 x y z p := fun p hp => by
      rw [hσ1]
      have : p = 0 ∨ p = 1 ∨ p = 2 := by omega
      rcases this with rfl | rfl | rfl
      · rw [wi_ne (by decide), wi_ne (by decide), wi_at]; rfl
      · rw [wi_ne (by decide), wi_at]; rfl
      · rw [wi_at]; rfl
    obtain ⟨ne, wh⟩ := h.2.2.2.1
    have sq := ne.sq
    have h1 : ClX B C V a u A m ver W pg t n wy ch fuel rs rn res q σ1 := h.kq g1.kp (fun b _ w => by omega) ⟨ne.kp F g1.kp (fun b _ w => by omega), wh.kp F g1.kp (fun b _ w => by omega)⟩ (Nat.le_refl _) (by rw [g1.1, sdN_g (g1.2.2 46 (by decide)).1]; exact h.2.2.2.2.2.2.2.2.2.2)
    have H1 : ClA W pg t n wy ch fuel rs rn res q σ1 := ⟨B, C, V, a, u, A, m, ver, h1⟩
    have F1 := h1.fx
    have Q1 := h1.qw hj
    have b11 : ∀ i, σ1.i 11 i = σ.i 11 i := fun i => by rw [(g1.2.2 11 (by decide)).1]
    have lp : ∀ r p, p + r = plW W.2.1 k → (∀ i, i < p → 0 ≤ (kn3 x y z i).toInt ∧ (kn3 x y z i).toInt < W.1.length) → C_X12_nearer_84 Z (d + 4 + 1) σ1 (Int32.ofNat (j + 1)) (Int32.ofNat (j' + 1)) (Int32.ofNat (plW W.2.1 k)) (Int32.ofNat p) K := by
      intro r
      induction r with
      | zero =>
        intro p hp ok
        have hp : p = plW W.2.1 k := by omega
        subst hp
        have ok' : ∀ i, i < plW W.2.1 k → 0 ≤ (kn3 x y z i).toInt ∧ (kn3 x y z i).toInt < W.1.length := ok
        rw [if_neg (fun q => q ok')] at hK
        have ka : KaS W 99 (plW W.2.1 k) (knN (plW W.2.1 k) x y z) σ1 := by
          refine ⟨⟨3, Nat.le_refl _, F1.s t0_99⟩, fun p hp => ?_⟩
          obtain ⟨o1, o2⟩ := ok' p hp
          unfold knN
          rw [if_pos hp, e99 p (by omega)]
          exact ⟨i_oN o1, by omega⟩
        refine T_X12_nearer_84 F1 (by omega) ⟨fun _ => ⟨ib_oN (by omega) (by decide), ib_oN (by omega) (by decide), ?_⟩, fun q => absurd (Int32.le_refl _) q⟩
        rw [oN_t (by omega), oN_t (by omega), b11, b11, at1, at2, oN_eq (by omega) (by omega)]
        refine ⟨fun q => ?_, fun q => ?_⟩
        · subst q
          refine cl_fits (d := d + 2) Q1.1 ka hx hg hc1 hc2 rfl ?_
          by_cases f1 : ftB W (j + 1) (knN (plW W.2.1 k) x y z) = true
          · rw [if_pos f1]
            refine ⟨fun q => absurd q (by decide), fun _ => cl_fits (d := d + 2) Q1.1 ka hx' hg' hc1' hc2' rfl ?_⟩
            by_cases f2 : ftB W (j' + 1) (knN (plW W.2.1 k) x y z) = true
            · rw [if_pos f2]
              rw [if_neg (fun q => q ⟨rfl, f1, f2⟩)] at hK
              refine ⟨fun _ => ?_, fun q => absurd q (by decide)⟩
              have mem : ∀ i, ftB W (i + 1) (knN (plW W.2.1 k) x y z) = true → mcW W.2.2.2 (i + 1) = k → ∀ p, p < plW W.2.1 k → kdW W.2.2.2 (i + 1) p ∈ rwW W.1 1 (knN (plW W.2.1 k) x y z p) := fun i f e p hp => by
                unfold ftB at f
                rw [e] at f
                exact of_decide_eq_true (List.all_eq_true.mp f p (List.mem_range.mpr hp))
              refine cl_compare (d := d) Q1 h1.2.2.2.1.1 ka (by decide) hx hx' hg (by rw [hc1, hc1']) (by rw [hc1]; rfl) (mem j f1 hmc) (mem j' f2 hmc') (fun τ g n'' => ?_)
              have sq1 := h1.2.2.2.1.1.sq
              have wh1 : WhS W wy τ := by
                have w1 := h1.2.2.2.1.2.1
                unfold WhS Rw0
                rw [(g.row F1 sq1 (a := 82) (by omega)).2, (g.row F1 sq1 (a := 68) (by omega)).1, (g.row F1 sq1 (a := 69) (by omega)).1, (g.row F1 sq1 (a := 70) (by omega)).1, (g.row F1 sq1 (a := 1) (by omega)).1]
                exact w1
              exact hK τ ⟨B, C, V, a, u, A, m, ver, h1.km g.1 g.2.1 (fun b _ w => by unfold neE at w; omega) ⟨n'', wh1, h1.2.2.2.1.2.2.row (fun a w => g.row F1 sq1 (by omega))⟩ (Nat.le_succ _) (h1.2.2.2.2.2.2.2.2.2.2.sz g.2.2)⟩
            · rw [if_neg f2]
              rw [if_pos (fun q => f2 q.2.2)] at hK
              exact ⟨fun q => absurd rfl q, fun _ => cc_2 H1 hK⟩
          · rw [if_neg f1]
            rw [if_pos (fun q => f1 q.2.1)] at hK
            exact ⟨fun _ => cc_2 H1 hK, fun q => absurd rfl q⟩
        · rw [if_pos (fun w => q w.1.symm)] at hK
          exact cc_2 H1 hK
      | succ r ih =>
        intro p hp ok
        refine T_X12_nearer_84 F1 (by omega) ⟨fun q => absurd q ?_, fun _ => ⟨ib_oN (by omega) (by decide), ?_⟩⟩
        · rw [oN_le (by omega) (by omega)]
          omega
        · rw [oN_t (by omega), e99 p (by omega), oN_1]
          refine cl_isKind h1 (fun w => ⟨fun y => absurd rfl y, fun _ => ?_⟩) (fun w1 w2 => ⟨fun _ => ih (p + 1) (by omega) (fun i hi => ?_), fun y => absurd y (by decide)⟩)
          · rw [if_pos (fun q => w (q p (by omega)))] at hK
            exact cc_1 H1 hK
          · by_cases ip : i = p
            · rw [ip]
              exact ⟨w1, w2⟩
            · exact ok i (by omega)
    exact lp _ 0 (Nat.zero_add _) (fun i hi => absurd hi (Nat.not_lt_zero _))
end NEARC

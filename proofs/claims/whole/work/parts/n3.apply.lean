/-! THE CLASS: who applies; groups -/
section APPL
variable {Z : zT} {d A u : Nat} {σ σ0 τ υ : Sg} {K : kS} {C : Nat × Nat × Nat × Nat} {W : Wld} {wy a0 gA c m n : Nat} {k : Nat → Nat} {v : Nat → Int} {L on ap : List Nat}
theorem ap_ft (W : Wld) (on : List Nat) (c : Nat) (k : Nat → Nat) (v : Nat → Int) : apL W on c k v W.2.2.2.length = (ftL W c k).filter (apB W on k v) := by
  unfold apL ftL
  rw [List.filter_filter]
  refine List.filter_congr (fun m _ => ?_)
  cases mnB W.2.2.2 c m <;> cases ftB W m k <;> cases apB W on k v m <;> rfl
/-- role and layer of a method, in the heap -/
theorem rl_at (h : QwS C W wy a0 σ) (hk : ∀ p, p < plW W.2.1 c → k p < W.1.length) (hm : m ∈ ftL W c k) : ∃ j x, m = j + 1 ∧ W.2.2.2[j]? = some x ∧ x.1.1 = (c : Int) ∧ (σ.i 12 m = Int32.ofNat (rlM W.2.2.2 m) ∧ rlM W.2.2.2 m ≤ 3) ∧ (σ.i 13 m = Int32.ofInt (lyM W.2.2.2 m) ∧ -1 ≤ lyM W.2.2.2 m ∧ lyM W.2.2.2 m < 8) ∧ m ≤ 120 := by
  obtain ⟨j, x, rfl, hx, -, ec, -⟩ := ft_at h.1 hk hm
  obtain ⟨hj, mt, wf⟩ := h.1.at hx
  have l8 := h.2.2.2.2.2.1
  obtain ⟨k0, w1, w2, w3, w4, -⟩ := wf
  have er : rlM W.2.2.2 (j + 1) = x.1.2.1 := by
    unfold rlM
    rw [Nat.add_sub_cancel, hx]
    rfl
  have el : lyM W.2.2.2 (j + 1) = x.1.2.2.1 := by
    unfold lyM
    rw [Nat.add_sub_cancel, hx]
    rfl
  rw [er, el]
  exact ⟨j, x, rfl, hx, ec, ⟨mt.2.1, w3⟩, ⟨mt.2.2.1, w4.1, by omega⟩, by omega⟩
/-- who applies, as bits -/
def MkA (ap : List Nat) (σ : Sg) : Prop := ∀ m, 1 ≤ m → m ≤ 128 → pb (σ.l 84 13, σ.l 84 14) m = decide (m ∈ ap)
/-- who applies -/
theorem cl_applying (h : QwS C W wy a0 σ) (hc : c < W.2.1.length) (ka : KaS W 89 (plW W.2.1 c) k σ) (gv : GvS gA (plW W.2.1 c) k v σ) (hg : gA ≠ 84 ∧ gA ≠ 90) (ho : LyW W on) (kk : ∀ τ, XF (fun a => a = 84 ∨ a = 90) σ τ → (∀ j, j ≠ 12 → τ.i 84 j = σ.i 84 j) → RoS 90 (apL W on c k v W.2.2.2.length) τ → τ.i 84 12 = Int32.ofNat (apL W on c k v W.2.2.2.length).length → MkA (apL W on c k v W.2.2.2.length) τ → K (.inl (some (.int (if ((apL W on c k v W.2.2.2.length).any fun m => decide (rlM W.2.2.2 m = 0)) = true then 1 else 0)))) τ) : C_X0_gatherApplying_0 Z (d + 4) σ (Int32.ofNat c) gA (lyE on) K := by
  have kl : ∀ p, p < plW W.2.1 c → k p < W.1.length := fun p hp => (ka.2 p hp).2
  have ml := h.1.2.2.2.2.1.2.1
  have fl := ftL_len W c k
  have l8 := h.2.2.2.2.2.1
  rw [ap_ft] at kk
  refine T_X0_gatherApplying_0 h.1.1 (cl_listFor (oA := 90) h hc ka (h.1.1.s (a := 90) t0_90) (fun τ g hr => ?_))
  have lp : ∀ (r i : Nat) (υ : Sg) (D : List Nat), i + r = (ftL W c k).length → XF (fun a => a = 84 ∨ a = 90) σ υ → (∀ j, j ≠ 12 → υ.i 84 j = σ.i 84 j) → D = ((ftL W c k).take i).filter (apB W on k v) → RoS 90 D υ → (∀ i' y, i ≤ i' → (ftL W c k)[i']? = some y → υ.i 90 i' = Int32.ofNat y) → υ.i 84 12 = Int32.ofNat D.length → MkA D υ → C_X0_gatherApplying_39 Z (d + 4) υ gA (lyE on) (Int32.ofNat (ftL W c k).length) (if (D.any fun m => decide (rlM W.2.2.2 m = 0)) = true then 1 else 0) (Int32.ofNat i) K := by
    intro r
    induction r with
    | zero =>
      intro i υ D hi g g6 eD hD hL e9 mk
      rw [List.take_of_length_le (by omega)] at eD
      refine T_X0_gatherApplying_39 (g.fx h.1.1) ?_
      rw [oN_le (by omega) (by omega)]
      refine ⟨fun _ => ⟨by split <;> rfl, ?_⟩, fun z => absurd (by omega) z⟩
      have := kk υ g g6 (by rw [← eD]; exact hD) (by rw [← eD]; exact e9) (by rw [← eD]; exact mk)
      rw [← eD] at this
      exact this
    | succ r ih =>
      intro i υ D hi g g6 eD hD hL e9 mk
      have hq : QwS C W wy a0 υ := h.xf g (fun a q => by omega)
      have ka' : KaS W 89 (plW W.2.1 c) k υ := ka.xf g (by omega)
      have gv' : GvS gA (plW W.2.1 c) k v υ := gv.xf g (by omega)
      have hi' := List.getElem?_eq_getElem (show i < (ftL W c k).length by omega)
      have ei := hL i _ (Nat.le_refl _) hi'
      have lm : (ftL W c k)[i] ∈ ftL W c k := List.getElem_mem _
      obtain ⟨j, x, ej, hx, ec, ⟨e12, r3⟩, ⟨e13, y1, y2⟩, mb⟩ := rl_at hq kl lm
      obtain ⟨s1, s2, s3⟩ := spM_at hx
      have dl : D.length ≤ i := by
        rw [eD]
        have := List.length_filter_le (apB W on k v) ((ftL W c k).take i)
        rw [List.length_take] at this
        omega
      have et : (ftL W c k).take (i + 1) = (ftL W c k).take i ++ [(ftL W c k)[i]] := by
        rw [List.take_succ, hi']
        rfl
      have eb : apB W on k v (ftL W c k)[i] = ((decide (lyM W.2.2.2 (ftL W c k)[i] < 0) || decide ((lyM W.2.2.2 (ftL W c k)[i]).toNat ∈ on)) && tkM (plW W.2.1 c) x.1.2.2.2.1 (blW W.1) k x.1.2.2.2.2.1 v) := by
        unfold apB
        rw [ej, s1, s2, s3, ec, Int.toNat_natCast]
      generalize hm : (ftL W c k)[i] = m at *
      have skip : apB W on k v m = false → C_X0_gatherApplying_39 Z (d + 4) υ gA (lyE on) (Int32.ofNat (ftL W c k).length) (if (D.any fun m => decide (rlM W.2.2.2 m = 0)) = true then 1 else 0) (Int32.ofNat (i + 1)) K := fun q => by
        refine ih (i + 1) υ D (by omega) g g6 ?_ hD (fun i' y h1 h2 => hL i' y (by omega) h2) e9 mk
        rw [et, List.filter_append, ← eD, List.filter_cons_of_neg (by rw [q]; exact Bool.false_ne_true), List.filter_nil, List.append_nil]
      refine T_X0_gatherApplying_39 hq.1.1 ?_
      rw [oN_le (by omega) (by omega), oN_t (by omega), ei, oN_t (by omega), e13, oN_1 i]
      refine ⟨fun z => absurd z (by omega), fun _ => ⟨ib_oN (by omega) (by decide), ib_oN (by omega) (by decide), cl_isOn hq.1.1 l8 ho ⟨y1, y2⟩ ?_⟩⟩
      by_cases o1 : (decide (lyM W.2.2.2 m < 0) || decide ((lyM W.2.2.2 m).toNat ∈ on)) = true
      · rw [if_pos o1]
        refine ⟨fun z => absurd z (by decide), fun _ => ?_⟩
        rw [ej]
        refine cl_takes hq.1 hx (by rw [ec, Int.toNat_natCast]) ka' gv' ?_
        by_cases t1 : tkM (plW W.2.1 c) x.1.2.2.2.1 (blW W.1) k x.1.2.2.2.2.1 v = true
        · rw [if_pos t1]
          refine ⟨fun z => absurd z (by decide), fun _ => ?_⟩
          have tr : apB W on k v m = true := by
            rw [eb, o1, t1]
            rfl
          have m1 : 1 ≤ m := by omega
          have an : ((D ++ [m]).any fun m => decide (rlM W.2.2.2 m = 0)) = ((D.any fun m => decide (rlM W.2.2.2 m = 0)) || decide (rlM W.2.2.2 m = 0)) := by
            rw [List.any_append]
            simp
          have go : ∀ (b : Int32) (s2 s3 : Int64), s2 = (if m ≤ 64 then (1 : Int64) <<< (Int32.toInt64 (Int32.ofNat (m - 1)) &&& 63) else 0) → s3 = (if m ≤ 64 then 0 else (1 : Int64) <<< (Int32.toInt64 (Int32.ofNat (m - 65)) &&& 63)) → b = (if ((D.any fun m => decide (rlM W.2.2.2 m = 0)) || decide (rlM W.2.2.2 m = 0)) = true then 1 else 0) → C_X0_gatherApplying_39 Z (d + 4) ((((υ.wi 90 D.length (Int32.ofNat m)).wi 84 12 (Int32.ofNat (D.length + 1))).wl 84 13 (υ.l 84 13 ||| s2)).wl 84 14 (υ.l 84 14 ||| s3)) gA (lyE on) (Int32.ofNat (ftL W c k).length) b (Int32.ofNat (i + 1)) K := fun b s2 s3 es2 es3 eb' => by
            rw [eb', ← an]
            have xw : XF (fun a => a = 84 ∨ a = 90) υ ((((υ.wi 90 D.length (Int32.ofNat m)).wi 84 12 (Int32.ofNat (D.length + 1))).wl 84 13 (υ.l 84 13 ||| s2)).wl 84 14 (υ.l 84 14 ||| s3)) := ((((XF.refl _ _).wi (by omega)).wi (by omega)).wl (by omega)).wl (by omega)
            have ii : ∀ a q, ((((υ.wi 90 D.length (Int32.ofNat m)).wi 84 12 (Int32.ofNat (D.length + 1))).wl 84 13 (υ.l 84 13 ||| s2)).wl 84 14 (υ.l 84 14 ||| s3)).i a q = ((υ.wi 90 D.length (Int32.ofNat m)).wi 84 12 (Int32.ofNat (D.length + 1))).i a q := fun a q => rfl
            refine ih (i + 1) _ (D ++ [m]) (by omega) (g.tr xw) (fun q hq => ?_) ?_ (fun a y hy => ?_) (fun i' y h1 h2 => ?_) ?_ (fun m' h1 h2 => ?_)
            · rw [ii, wi_ne (by omega), wi_ne (by omega)]
              exact g6 q hq
            · rw [et, List.filter_append, ← eD, List.filter_cons_of_pos tr, List.filter_nil]
            · rw [ii, wi_ne (by omega)]
              by_cases q : a < D.length
              · rw [List.getElem?_append_left q] at hy
                rw [wi_ne (by omega)]
                exact hD a y hy
              · rw [List.getElem?_append_right (by omega)] at hy
                have jl := (List.getElem?_eq_some_iff.mp hy).1
                rw [List.length_singleton] at jl
                have je : a = D.length := by omega
                subst je
                rw [Nat.sub_self] at hy
                cases hy
                exact wi_at ..
            · rw [ii, wi_ne (by omega), wi_ne (by omega)]
              exact hL i' y (by omega) h2
            · rw [ii, wi_at, List.length_append, List.length_singleton]
            · rw [wl_ne (show ¬ (84 = 84 ∧ 13 = 14) by decide), wl_eq, wl_eq, es2, es3, pb_or ⟨m1, mb⟩ ⟨h1, h2⟩, mk m' h1 h2]
              rw [Bool.eq_iff_iff, Bool.or_eq_true_iff, decide_eq_true_iff, decide_eq_true_iff, decide_eq_true_iff, List.mem_append, List.mem_singleton]
          have st3 : ∀ s2 s3 : Int64, s2 = (if m ≤ 64 then (1 : Int64) <<< (Int32.toInt64 (Int32.ofNat (m - 1)) &&& 63) else 0) → s3 = (if m ≤ 64 then 0 else (1 : Int64) <<< (Int32.toInt64 (Int32.ofNat (m - 65)) &&& 63)) → C_X0_gatherApplying_155 Z (d + 4) (((υ.wi 90 D.length (Int32.ofNat m)).wi 84 12 (Int32.ofNat (D.length + 1))).wl 84 13 (υ.l 84 13 ||| s2)) gA (lyE on) (Int32.ofNat (ftL W c k).length) (if (D.any fun m => decide (rlM W.2.2.2 m = 0)) = true then 1 else 0) (Int32.ofNat i) (Int32.ofNat m) (υ.l 84 14) s3 K := fun s2 s3 es2 es3 => by
            refine T_X0_gatherApplying_155 hq.1.1 ?_
            rw [oN_t (by omega), show (((υ.wi 90 D.length (Int32.ofNat m)).wi 84 12 (Int32.ofNat (D.length + 1))).wl 84 13 (υ.l 84 13 ||| s2)).i 12 m = Int32.ofNat (rlM W.2.2.2 m) from by rw [wl_i, wi_ne (by omega), wi_ne (by omega)]; exact e12, show Int32.ofNat (rlM W.2.2.2 m) = 0 ↔ rlM W.2.2.2 m = 0 from oN_eq (b := 0) (by omega) (by decide), oN_1]
            refine ⟨fun z => go 1 s2 s3 es2 es3 ?_, fun z => ⟨ib_oN (by omega) (by decide), fun z2 => go 0 s2 s3 es2 es3 ?_, fun z2 => go 1 s2 s3 es2 es3 ?_⟩⟩
            · have : (D.any fun m => decide (rlM W.2.2.2 m = 0)) = true := Classical.byContradiction fun q => z (if_neg q)
              rw [this]
              rfl
            · have : ¬ (D.any fun m => decide (rlM W.2.2.2 m = 0)) = true := fun q => by
                rw [if_pos q] at z
                exact absurd z (by decide)
              rw [Bool.eq_false_iff.mpr this, decide_eq_false z2]
              rfl
            · rw [decide_eq_true z2, Bool.or_true]
              rfl
          have l64 : (64 : Int32) < Int32.ofNat m ↔ 64 < m := oN_lt (a := 64) (by decide) (by omega)
          have st2 : ∀ s2 : Int64, s2 = (if m ≤ 64 then (1 : Int64) <<< (Int32.toInt64 (Int32.ofNat (m - 1)) &&& 63) else 0) → C_X0_gatherApplying_128 Z (d + 4) ((υ.wi 90 D.length (Int32.ofNat m)).wi 84 12 (Int32.ofNat (D.length + 1))) gA (lyE on) (Int32.ofNat (ftL W c k).length) (if (D.any fun m => decide (rlM W.2.2.2 m = 0)) = true then 1 else 0) (Int32.ofNat i) (Int32.ofNat m) (υ.l 84 13) s2 K := fun s2 es2 => by
            refine T_X0_gatherApplying_128 hq.1.1 ?_
            rw [l64]
            refine ⟨fun z => st3 s2 _ es2 ?_, fun z => st3 s2 _ es2 ?_⟩
            · rw [if_neg (by omega), show (65 : Int32) = Int32.ofNat 65 from rfl, oN_sub (by omega)]
            · rw [if_pos (by omega)]
          rw [← ej, e9, oN_t (by omega), oN_1, l64]
          refine ⟨ib_oN (by omega) (by decide), fun z => st2 0 ?_, fun z => st2 _ ?_⟩
          · rw [if_neg (by omega)]
          · rw [if_pos (by omega), show (1 : Int32) = Int32.ofNat 1 from rfl, oN_sub (by omega)]
        · rw [if_neg t1]
          exact ⟨fun _ => skip (by rw [eb, Bool.eq_false_iff.mpr t1, Bool.and_false]), fun z => absurd rfl z⟩
      · rw [if_neg o1]
        exact ⟨fun _ => skip (by rw [eb, Bool.eq_false_iff.mpr o1, Bool.false_and]), fun z => absurd rfl z⟩
  have xw : XF (fun a => a = 84 ∨ a = 90) τ (((τ.wi 84 12 0).wl 84 13 0).wl 84 14 0) := (((XF.refl _ _).wi (by omega)).wl (by omega)).wl (by omega)
  refine lp (ftL W c k).length 0 _ [] (by omega) ((g.mono (fun a q => Or.inr q)).tr xw) (fun j hj => ?_) rfl (fun i y q => by cases q) (fun i' y _ h2 => ?_) (by rw [wl_i, wl_i]; exact wi_at ..) (fun m' h1 h2 => ?_)
  · rw [wl_i, wl_i, wi_ne (by omega), (g.2.2 84 (by omega)).1]
  · rw [wl_i, wl_i, wi_ne (by omega)]
    exact hr i' y h2
  · rw [wl_ne (show ¬ (84 = 84 ∧ 13 = 14) by decide), wl_eq, wl_eq, pb_z]
    exact (decide_eq_false List.not_mem_nil).symm
/-- a group -/
theorem cl_group {role : Nat} {ly : Int} (h : QwS C W wy a0 σ) (hk : ∀ p, p < plW W.2.1 c → k p < W.1.length) (hA : ∀ m ∈ ap, m ∈ ftL W c k) (hl : ap.length ≤ 120) (hr : RoS 90 ap σ) (e11 : σ.i 84 12 = Int32.ofNat ap.length) (rl : role ≤ 3) (yl : -1 ≤ ly ∧ ly < 8) (kk : ∀ τ, XF (fun a => a = 91) σ τ → RoS 91 (gpL W.2.2.2 ap role ly) τ → K (.inl (some (.int (Int32.ofNat (gpL W.2.2.2 ap role ly).length)))) τ) : C_X0_gatherGroup_0 Z (d + 1) σ (Int32.ofNat role) (Int32.ofInt ly) K := by
  have ie : ∀ a b : Int, -1 ≤ a → a < 8 → -1 ≤ b → b < 8 → (Int32.ofInt a = Int32.ofInt b ↔ a = b) := fun a b a1 a2 b1 b2 => by
    constructor
    · intro q
      have := congrArg Int32.toInt q
      rw [Int32.toInt_ofInt_of_le (by show -2147483648 ≤ a; omega) (by show a < 2147483648; omega), Int32.toInt_ofInt_of_le (by show -2147483648 ≤ b; omega) (by show b < 2147483648; omega)] at this
      exact this
    · intro q
      rw [q]
  have lp : ∀ (r i : Nat) (υ : Sg) (D : List Nat), i + r = ap.length → XF (fun a => a = 91) σ υ → D = gpL W.2.2.2 (ap.take i) role ly → RoS 91 D υ → C_X0_gatherGroup_5 Z (d + 1) υ (Int32.ofNat role) (Int32.ofInt ly) (Int32.ofNat D.length) (Int32.ofNat i) K := by
    intro r
    induction r with
    | zero =>
      intro i υ D hi g eD hD
      rw [List.take_of_length_le (by omega)] at eD
      have e11' : υ.i 84 12 = Int32.ofNat ap.length := by
        rw [(g.2.2 84 (by decide)).1]
        exact e11
      refine T_X0_gatherGroup_5 (g.fx h.1.1) ?_
      rw [e11', oN_le (by omega) (by omega)]
      refine ⟨fun _ => ?_, fun z => absurd (by omega) z⟩
      have := kk υ g (by rw [← eD]; exact hD)
      rw [← eD] at this
      exact this
    | succ r ih =>
      intro i υ D hi g eD hD
      have hq : QwS C W wy a0 υ := h.xf g (fun a q => by omega)
      have e11' : υ.i 84 12 = Int32.ofNat ap.length := by
        rw [(g.2.2 84 (by decide)).1]
        exact e11
      have hi' := List.getElem?_eq_getElem (show i < ap.length by omega)
      have ei : υ.i 90 i = Int32.ofNat ap[i] := by
        rw [(g.2.2 90 (by decide)).1]
        exact hr i _ hi'
      have lm : ap[i] ∈ ap := List.getElem_mem _
      obtain ⟨j, x, ej, hx, ec, ⟨e12, r3⟩, ⟨e13, y1, y2⟩, mb⟩ := rl_at hq hk (hA _ lm)
      have et : ap.take (i + 1) = ap.take i ++ [ap[i]] := by
        rw [List.take_succ, hi']
        rfl
      have dl : D.length ≤ i := by
        rw [eD]
        unfold gpL
        have := List.length_filter_le (fun m => decide (rlM W.2.2.2 m = role) && decide (lyM W.2.2.2 m = ly)) (ap.take i)
        rw [List.length_take] at this
        omega
      have eg : gpL W.2.2.2 (ap.take (i + 1)) role ly = D ++ if (decide (rlM W.2.2.2 ap[i] = role) && decide (lyM W.2.2.2 ap[i] = ly)) = true then [ap[i]] else [] := by
        rw [eD]
        unfold gpL
        rw [et, List.filter_append, List.filter_cons]
        rfl
      refine T_X0_gatherGroup_5 hq.1.1 ?_
      rw [e11', oN_le (by omega) (by omega), oN_t (by omega), ei, oN_t (by omega), e12, e13, oN_eq (by omega) (by omega), ie _ _ y1 y2 yl.1 yl.2, oN_1 i, oN_1 D.length, oN_t (by omega)]
      refine ⟨fun z => absurd z (by omega), fun _ => ⟨ib_oN (by omega) (by decide), ib_oN (by omega) (by decide), fun z => ih (i + 1) υ D (by omega) g ?_ hD, fun z => ⟨ib_oN (by omega) (by decide), fun z2 => ih (i + 1) υ D (by omega) g ?_ hD, fun z2 => ⟨ib_oN (by omega) (by decide), ?_⟩⟩⟩⟩
      · rw [eg, decide_eq_false z, Bool.false_and, if_neg (by decide), List.append_nil]
      · rw [eg, decide_eq_false z2, Bool.and_false, if_neg (by decide), List.append_nil]
      · have := ih (i + 1) (υ.wi 91 D.length (Int32.ofNat ap[i])) (D ++ [ap[i]]) (by omega) (g.wi rfl) (by rw [eg, decide_eq_true z, decide_eq_true z2, Bool.true_and, if_pos rfl]) (fun a y hy => ?_)
        · rw [List.length_append, List.length_singleton] at this
          exact this
        · by_cases q : a < D.length
          · rw [List.getElem?_append_left q] at hy
            rw [wi_ne (by omega)]
            exact hD a y hy
          · rw [List.getElem?_append_right (by omega)] at hy
            have jl := (List.getElem?_eq_some_iff.mp hy).1
            rw [List.length_singleton] at jl
            have je : a = D.length := by omega
            subst je
            rw [Nat.sub_self] at hy
            cases hy
            exact wi_at ..
  exact T_X0_gatherGroup_0 h.1.1 (lp ap.length 0 σ [] (by omega) (XF.refl _ _) rfl (fun i y q => by cases q))
end APPL

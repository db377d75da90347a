/-! THE LANDED CODE, NEW -/
theorem W0_k {k : Nat} {x : Knd} (h : W0.1[k]? = some x) : (k = 0 ∧ x = (nmJ 112, true, [], [0], [0], [0])) ∨ (k = 1 ∧ x = (nmJ 114, false, [0], [1, 0], [1, 0], [1, 0])) ∨ (k = 2 ∧ x = (nmJ 116, false, [0], [2, 0], [2, 0], [2, 0])) := by
  match k, h with
  | 0, h =>
    injection h with h
    exact Or.inl ⟨rfl, h.symm⟩
  | 1, h =>
    injection h with h
    exact Or.inr (Or.inl ⟨rfl, h.symm⟩)
  | 2, h =>
    injection h with h
    exact Or.inr (Or.inr ⟨rfl, h.symm⟩)
  | k + 3, h => cases h
theorem nm_3 {k : Nat} {nm : List Int32} (h : (W0.1.map (·.1))[k]? = some nm) : (k = 0 ∧ nm = nmJ 112) ∨ (k = 1 ∧ nm = nmJ 114) ∨ (k = 2 ∧ nm = nmJ 116) := by
  match k, h with
  | 0, h =>
    injection h with h
    exact Or.inl ⟨rfl, h.symm⟩
  | 1, h =>
    injection h with h
    exact Or.inr (Or.inl ⟨rfl, h.symm⟩)
  | 2, h =>
    injection h with h
    exact Or.inr (Or.inr ⟨rfl, h.symm⟩)
  | k + 3, h => cases h
theorem nj_112 : nmJ 112 = [65, 110, 121] := by decide +kernel
theorem nj_114 : nmJ 114 = [73, 110, 116] := by decide +kernel
theorem nj_116 : nmJ 116 = [70, 97, 117, 108, 116] := by decide +kernel
theorem sC_nm : NmS (W0.1.map (·.1)) 0 sgC := fun k nm h => by
  rcases nm_3 h with ⟨rfl, rfl⟩ | ⟨rfl, rfl⟩ | ⟨rfl, rfl⟩
  · refine ⟨by decide +kernel, by decide +kernel, by decide +kernel, fun c hc => ?_⟩
    rw [nj_112] at hc
    simp only [List.mem_cons, List.not_mem_nil, or_false] at hc
    rcases hc with rfl | rfl | rfl <;> (unfold nmC isLet; decide)
  · refine ⟨by decide +kernel, by decide +kernel, by decide +kernel, fun c hc => ?_⟩
    rw [nj_114] at hc
    simp only [List.mem_cons, List.not_mem_nil, or_false] at hc
    rcases hc with rfl | rfl | rfl <;> (unfold nmC isLet; decide)
  · refine ⟨by decide +kernel, by decide +kernel, by decide +kernel, fun c hc => ?_⟩
    rw [nj_116] at hc
    simp only [List.mem_cons, List.not_mem_nil, or_false] at hc
    rcases hc with rfl | rfl | rfl | rfl | rfl <;> (unfold nmC isLet; decide)
theorem sC_s {a : Nat} {s : Sh} (h : sh0C[a]? = some s) : sgC.sh[a]? = some s := sgC_F.s h
theorem sC_rr {a k : Nat} {v : Rf} (h : (if cstC a k = true then r0C a k else unR hwP[a]? k) = v) : sgC.r a k = v := h
theorem sC_HC : HC (64, 42, 43, 44, 45) (1804, 25, 26, 27) W0 sgC := by
  refine ⟨sgC_F, ⟨⟨sC_rr (by decide +kernel), sC_s (by decide +kernel)⟩, ⟨sC_rr (by decide +kernel), sC_s (by decide +kernel)⟩, ⟨sC_rr (by decide +kernel), sC_s (by decide +kernel)⟩, ⟨sC_rr (by decide +kernel), sC_s (by decide +kernel)⟩, by decide, Or.inl rfl, Or.inl rfl, Or.inl rfl, Or.inl rfl, by decide⟩, ⟨⟨sC_rr (by decide +kernel), sC_s (by decide +kernel)⟩, ⟨sC_rr (by decide +kernel), sC_s (by decide +kernel)⟩, ⟨sC_rr (by decide +kernel), sC_s (by decide +kernel)⟩, by decide, Or.inl rfl, Or.inl rfl, Or.inl rfl, by decide⟩, by decide, ⟨by decide +kernel, by decide, sC_nm, by decide +kernel, fun k x h => ?_⟩, ⟨by decide +kernel, by decide, fun k nm h => (by cases h), List.Pairwise.nil, fun k x h => (by cases h)⟩, ⟨by decide +kernel, by decide, fun k nm h => (by cases h), List.Pairwise.nil⟩⟩
  rcases W0_k h with ⟨rfl, rfl⟩ | ⟨rfl, rfl⟩ | ⟨rfl, rfl⟩
  · decide +kernel
  · decide +kernel
  · decide +kernel
theorem bt_fin {v : Int32} {L : List Nat} (h : ∀ b : Fin 32, v.toBitVec.getLsbD b.val = decide (b.val ∈ L)) : BtS v L := fun b hb => h ⟨b, hb⟩
theorem sC_r0 : ∀ w : Fin 3, sgC.i 7 ((w.val * 24 + 0) * 24 + 0) = 0 ∧ sgC.i 8 ((w.val * 24 + 0) * 24 + 0) = 0 := by decide +kernel
theorem sC_r1 : ∀ w : Fin 3, (sgC.i 7 ((w.val * 24 + 1) * 24 + 0) = 1 ∧ sgC.i 8 ((w.val * 24 + 1) * 24 + 1) = 0) ∧ sgC.i 7 ((w.val * 24 + 1) * 24 + 1) = 0 ∧ sgC.i 8 ((w.val * 24 + 1) * 24 + 0) = 1 := by decide +kernel
theorem sC_r2 : ∀ w : Fin 3, (sgC.i 7 ((w.val * 24 + 2) * 24 + 0) = 2 ∧ sgC.i 8 ((w.val * 24 + 2) * 24 + 2) = 0) ∧ sgC.i 7 ((w.val * 24 + 2) * 24 + 1) = 0 ∧ sgC.i 8 ((w.val * 24 + 2) * 24 + 0) = 1 := by decide +kernel
theorem rk_0 {w : Nat} (h : w < 3) (x : Knd) (l : List Nat) (h0 : x.2.2.2.1 = l) (h1 : x.2.2.2.2.1 = l) (h2 : x.2.2.2.2.2 = l) : rwK x w = l := by
  unfold rwK
  split
  · exact h0
  · split
    · exact h1
    · exact h2
theorem in_2 {k y : Nat} : y ∈ [k, 0] ↔ y = k ∨ y = 0 := by simp
theorem sC_WK : WK W0.1 sgC := fun k x h => by
  rcases W0_k h with ⟨rfl, rfl⟩ | ⟨rfl, rfl⟩ | ⟨rfl, rfl⟩
  · refine ⟨⟨bt_fin (by decide +kernel), by decide +kernel, fun w hw i y hy => ?_⟩, by decide, fun w hw => ?_⟩
    · rw [rk_0 hw _ [0] rfl rfl rfl] at hy
      match i, hy with
      | 0, hy =>
        injection hy with hy
        subst hy
        exact sC_r0 ⟨w, hw⟩
      | i + 1, hy => cases hy
    · rw [rk_0 hw _ [0] rfl rfl rfl]
      exact ⟨by decide, rfl, fun y => ⟨fun z => by simp at z; omega, Iff.rfl⟩⟩
  · refine ⟨⟨bt_fin (by decide +kernel), by decide +kernel, fun w hw i y hy => ?_⟩, by decide, fun w hw => ?_⟩
    · rw [rk_0 hw _ [1, 0] rfl rfl rfl] at hy
      match i, hy with
      | 0, hy =>
        injection hy with hy
        subst hy
        exact (sC_r1 ⟨w, hw⟩).1
      | 1, hy =>
        injection hy with hy
        subst hy
        exact (sC_r1 ⟨w, hw⟩).2
      | i + 2, hy => cases hy
    · rw [rk_0 hw _ [1, 0] rfl rfl rfl]
      exact ⟨by decide, rfl, fun y => ⟨fun z => by simp at z; omega, Iff.rfl⟩⟩
  · refine ⟨⟨bt_fin (by decide +kernel), by decide +kernel, fun w hw i y hy => ?_⟩, by decide, fun w hw => ?_⟩
    · rw [rk_0 hw _ [2, 0] rfl rfl rfl] at hy
      match i, hy with
      | 0, hy =>
        injection hy with hy
        subst hy
        exact (sC_r2 ⟨w, hw⟩).1
      | 1, hy =>
        injection hy with hy
        subst hy
        exact (sC_r2 ⟨w, hw⟩).2
      | i + 2, hy => cases hy
    · rw [rk_0 hw _ [2, 0] rfl rfl rfl]
      exact ⟨by decide, rfl, fun y => ⟨fun z => by simp at z; omega, Iff.rfl⟩⟩
theorem sC_WMc : WMc (1804, 25, 26, 27) 902 W0.2.2.2 sgC := ⟨by decide +kernel, by decide, by decide +kernel, ⟨by decide, by decide, 0, by decide, by decide⟩, fun m x h => by cases h⟩
theorem sC_z34 : ∀ c : Fin 24, sgC.l 34 c.val = 0 ∧ sgC.l 35 c.val = 0 := by decide +kernel
theorem sC_z36 : ∀ p : Fin 72, sgC.l 36 p.val = 0 ∧ sgC.l 37 p.val = 0 := by decide +kernel
theorem pb_zz (m : Nat) : pb (0, 0) m = false := by
  unfold pb
  split <;> (unfold tb; simp)
theorem mn_0 {c m : Nat} (h : 1 ≤ m) : mnS W0 c m = false := by
  unfold mnS
  rw [decide_eq_false (show ¬ m < W0.2.2.2.length + 1 by show ¬ m < 0 + 1; omega)]
  rfl
theorem fi_0 {p k m : Nat} (h : 1 ≤ m) : fiZ W0 p k m = false := by
  unfold fiZ
  rw [decide_eq_false (show ¬ m < W0.2.2.2.length + 1 by show ¬ m < 0 + 1; omega)]
  rfl
theorem mk_0 : mkW W0.1 = [1, 2] := by decide +kernel
theorem sC_StS : StS W0 sgC := by
  refine ⟨⟨by decide +kernel, fun i k h => ?_⟩, fun c hc m h1 h2 => ?_, fun p k hp hk m h1 h2 => ?_⟩
  · rw [mk_0] at h
    match i, h with
    | 0, h =>
      injection h with h
      subst h
      decide +kernel
    | 1, h =>
      injection h with h
      subst h
      decide +kernel
    | i + 2, h => cases h
  · rw [(sC_z34 ⟨c, hc⟩).1, (sC_z34 ⟨c, hc⟩).2, pb_zz, mn_0 h1]
  · have hk3 : k < 3 := hk
    have e := sC_z36 ⟨p * 24 + k, by omega⟩
    rw [e.1, e.2, pb_zz, fi_0 h1]
theorem sC_CRs : CRs (64, 42, 43, 44, 45) (1804, 25, 26, 27) W0 902 sgC := ⟨sC_HC, sC_WK, fun k x h => (by cases h), sC_WMc, PuW.w0.1.1, sC_StS, ⟨by decide, by decide⟩, 0, by decide, by decide +kernel⟩
theorem sC_z57 : ∀ c : Fin 24, sgC.i 57 c.val = 0 ∧ sgC.i 68 c.val = 0 := by decide +kernel
theorem sC_16 : sgC.i 1 16 = 2 := by decide +kernel
theorem sC_LiS : LiS W0 sgC := ⟨fun c hc => absurd hc (by show ¬ c < 0; omega), fun c hc => by
  rw [(sC_z57 ⟨c, hc⟩).1, sC_16]
  decide⟩
theorem sC_R48 : ∀ i j : Fin 4, (sgC.l 55 (4 * i.val + j.val)).toInt = d0 i.val j.val := by decide +kernel
theorem sC_R75 : ∀ i j : Fin 4, (sgC.l 82 (4 * i.val + j.val)).toInt = d0 i.val j.val := by decide +kernel
theorem sC_z47 : ∀ s : Fin 64, sgC.i 47 s.val = 0 := by decide +kernel
theorem sC_sq : sqA sgC = 47 := sqA_e (sC_rr (by decide +kernel))
theorem sC_NeS : NeS W0 sgC := by
  refine ⟨fun i j hi hj => sC_R48 ⟨i, hi⟩ ⟨j, hj⟩, 3, ⟨⟨by decide, by decide⟩, by decide +kernel, ?_, ?_, Or.inl sC_sq⟩, fun m n hm hn => Or.inl ?_⟩
  · rw [sC_sq]
    exact sC_rr (by decide +kernel)
  · rw [sC_sq]
    exact sC_s (by decide +kernel)
  · rw [sC_sq]
    exact sC_z47 ⟨m * 2 ^ 3 + n, sq_lt hm hn⟩
theorem sC_z101 : ∀ H : Fin 26, sgC.l 101 (5 * H.val) = 0 := by decide +kernel
theorem sC_NtS : NtS W0 0 sgC := fun H hH => by
  refine ⟨?_, fun e => ?_⟩
  · rw [sC_z101 ⟨H, by omega⟩, sC_16]
    decide
  · rw [sC_z101 ⟨H, by omega⟩, sC_16] at e
    exact absurd e (by decide)
theorem sC_sd : sdN sgC = 64 := by decide +kernel
theorem sC_WhS : WhS W0 0 sgC := ⟨fun i j hi hj => sC_R75 ⟨i, hi⟩ ⟨j, hj⟩, fun c hc => absurd hc (by show ¬ c < 0; omega), fun c hc => by
  rw [(sC_z57 ⟨c, hc⟩).2, sC_16]
  decide⟩
theorem sC_z100 : ∀ k : Fin 256, sgC.i 100 k.val = 0 := by decide +kernel
theorem sC_z66 : ∀ k : Fin 64, sgC.i 66 k.val = 0 := by decide +kernel
theorem by_0 : by8 0 := by
  unfold by8
  decide
theorem sC_SeA : SeA sgC (64, 64, 65, 66) := ⟨⟨sC_rr (by decide +kernel), sC_s (by decide +kernel)⟩, ⟨sC_rr (by decide +kernel), sC_s (by decide +kernel)⟩, ⟨sC_rr (by decide +kernel), sC_s (by decide +kernel)⟩, by decide, Or.inl rfl, Or.inl rfl, Or.inl rfl, 6, by decide, by decide, by decide⟩
theorem sC_upN : upN sgC ≤ 24 := by
  unfold upN
  exact Nat.le_trans (List.length_filter_le _ _) (by rw [List.length_range]; exact Nat.le_refl _)
theorem sC_RnM : RnM none sgC := ⟨by decide +kernel, by decide +kernel, by decide +kernel, by decide +kernel, ⟨by decide +kernel, by decide, fun i x h => by cases h⟩, by decide +kernel, by decide, fun i x h => by cases h⟩
theorem sC_SetC : SetC sgC (64, 64, 65, 66) 0 [] := ⟨sC_SeA, ⟨by decide +kernel, by decide⟩, fun p hp => ⟨0, Nat.le_refl _, sC_z66 ⟨p, hp⟩⟩, ⟨by decide +kernel, by decide⟩, List.Pairwise.nil, fun z => absurd z (by decide)⟩
theorem sC_len : sgC.sh.length = 102 := by
  rw [← conc_len, sgC_c]
  exact hwP_n
theorem sC_ClA : ClA W0 .nil (fun _ => 0) 0 0 0 10000 0 none [] 0 sgC := by
  refine ⟨(64, 42, 43, 44, 45), (1804, 25, 26, 27), (64, 64, 65, 66), 902, 0, 100, 256, 2, sC_CRs, ⟨by decide +kernel, by decide⟩, ⟨⟨[], sC_SetC⟩, ⟨fun a ha => ?_, ?_, ?_, ?_⟩, sC_LiS⟩, ⟨sC_NeS, sC_WhS, sC_NtS⟩, ⟨by decide +kernel, by decide⟩, ⟨⟨by decide, by decide⟩, ?_⟩, ⟨sC_rr (by decide +kernel), ⟨⟨0, by decide, by decide⟩, fun k hk => ?_⟩, ⟨sC_s (by decide +kernel), ⟨by decide, by decide, by decide⟩, fun k hk => absurd hk (by omega), fun k => by_0, by decide⟩, by decide +kernel⟩, ⟨⟨by decide +kernel, by decide⟩, ⟨by decide +kernel, by decide, by decide⟩, by decide +kernel, fun z => by cases z⟩, ⟨by decide +kernel, sC_RnM, by decide +kernel, by decide, fun k x h => by cases h⟩, ?_, ?_⟩
  · rw [sC_len]
    dsimp only at ha ⊢
    omega
  · rw [sC_len]
    decide
  · rw [sC_len, sC_sq]
    decide
  · rw [sC_sq]
    decide
  · unfold DjN
    rw [sC_sq]
    decide
  · rw [sC_z100 ⟨k, hk⟩]
    exact by_0
  · have := sC_upN
    omega
  · have e : sgC.sh = sh0C := hw_s
    rw [e, sC_sd]
    exact ⟨by show szS sh0C + 12232 ≤ szS sh0C + 6 * 1804 + 8 * 64 + 6 * 64 + 2 * (256 + 64) + 8 * 0; omega, by
      show 12621 * sh0C.length + 127420 ≤ 12621 * 102 + 21 * (1804 + 38 * 64) + 601 * 64 + 601 * (256 + 64) + 12621 * 0
      rw [show sh0C.length = 102 from by decide +kernel]
      decide⟩

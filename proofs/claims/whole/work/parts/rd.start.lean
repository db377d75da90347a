/-! THE LAW'S START, and the claim -/
def clV (n : Nat) : Value → Bool
  | .ref k => decide (k < n)
  | _ => true
def clO (n : Nat) : Option Nat → Bool
  | some k => decide (k < n)
  | none => true
def clE (n : Nat) : ab_E → Bool
  | .inr (.inl (_, .inr (.inr l))) => l.all (clO n)
  | .inr (.inr (_, fs)) => fs.all (clV n)
  | _ => true
theorem clE_fx {n : Nat} {f : Nat → Nat} (hf : ∀ k, k < n → f k = k) {e : ab_E} (h : clE n e = true) : ab_rnE f e = e := by
  rcases e with m | ⟨t, l | l | l⟩ | ⟨ci, fs⟩
  · rfl
  · rfl
  · rfl
  · show (.inr (.inl (t, .inr (.inr (l.map (Option.map f))))) : ab_E) = _
    have e2 : l.map (Option.map f) = l := by
      refine (List.map_congr_left fun o ho => ?_).trans (List.map_id l)
      have := List.all_eq_true.mp (show l.all (clO n) = true from h) o ho
      cases o with
      | none => rfl
      | some k =>
        show some (f k) = some k
        rw [hf k (of_decide_eq_true this)]
    rw [e2]
  · show (.inr (.inr (ci, fs.map (ab_rn f))) : ab_E) = _
    have e2 : fs.map (ab_rn f) = fs := by
      refine (List.map_congr_left fun v hv => ?_).trans (List.map_id fs)
      have h1 := List.all_eq_true.mp (show fs.all (clV n) = true from h) v hv
      cases v <;> first | rfl | skip
      rename_i k
      show Value.ref (f k) = Value.ref k
      rw [hf k (of_decide_eq_true h1)]
    rw [e2]
theorem hw_cl : hwP.all (clE 102) = true := by decide +kernel
theorem hw_fx {f : Nat → Nat} (hf : ∀ k, k < 102 → f k = k) : FxH f hwP := fun e he => clE_fx hf (List.all_eq_true.mp hw_cl e he)
theorem hf_cl : clE 0 (.inr (.inr (24, hm_F0))) = true := by decide +kernel
theorem hf_fx (f : Nat → Nat) : ab_rnE f (.inr (.inr (24, hm_F0))) = .inr (.inr (24, hm_F0)) := clE_fx (n := 0) (fun k z => absurd z (Nat.not_lt_zero k)) hf_cl
theorem hw_pz : ab_z hw_28 = ab_z hwP := by decide +kernel
theorem em_st : EmP (fun k => 102 + k) [.inr (.inr (24, hm_F0))] (hw_28 ++ [.inr (.inr (24, hm_F0))]) := by
  refine ⟨fun k e hk => ?_, fun j k _ _ z => ?_, fun e he => ?_⟩
  · match k, hk with
    | 0, hk =>
      injection hk with hk
      subst hk
      rw [hf_fx]
      show (hw_28 ++ [(.inr (.inr (24, hm_F0)) : ab_E)])[102]? = _
      rw [List.getElem?_append_right (by rw [hw_28_n]; exact Nat.le_refl _), hw_28_n]
      rfl
    | k + 1, hk => cases hk
  · have z' : 102 + j = 102 + k := z
    omega
  · rw [List.mem_singleton.mp he]
    exact hf_fx _
theorem st_two {h' : List ab_E} {τ : Sg} {f' : Nat → Nat} (hn : τ.sh.length = 3365) (s1 : EmP f' (conc τ) h') (s2 : ∀ k, k < 1 → f' k = 102 + k) (s3 : ∀ k, 1 ≤ k → (hw_28 ++ [(.inr (.inr (24, hm_F0)) : ab_E)]).length ≤ f' k) (s4 : ∀ j, j < (hw_28 ++ [(.inr (.inr (24, hm_F0)) : ab_E)]).length → (∀ k, k < 1 → 102 + k ≠ j) → h'[j]? = (hw_28 ++ [(.inr (.inr (24, hm_F0)) : ab_E)])[j]?) (hl : h'.length = 3467) (hz : ab_z h' = ab_z hw_28 + ab_z (conc τ)) : Two (h' ++ [.inr (.inl (1, .inr (.inl (List.replicate 1 0))))]) (conc sgC) (conc τ) 0 hw_p f' := by
  have hlen : (hw_28 ++ [(.inr (.inr (24, hm_F0)) : ab_E)]).length = 103 := by
    rw [List.length_append, hw_28_n]
    rfl
  rw [hlen] at s3 s4
  have hcl : (conc τ).length = 3365 := by rw [conc_len]; exact hn
  rw [sgC_c]
  refine ⟨⟨fun k e hk => ?_, fun j k hj hk z => hw_pi (by rw [hwP_n] at hj; exact hj) (by rw [hwP_n] at hk; exact hk) z, hw_fx (fun k z => cf_id (by rw [hwP_n]; exact z))⟩, s1.keep (fun k hk => List.getElem?_append_left (s1.lt hk)), fun j k hj hk => ?_, ⟨fun j hj => ?_, fun k hk => ?_⟩, ?_, ⟨by rw [hwP_n]; decide, rfl⟩, ⟨by rw [hcl]; decide, s2 0 (by decide)⟩, ?_, ?_⟩
  · have hl1 := (List.getElem?_eq_some_iff.mp hk).1
    rw [hwP_n] at hl1
    have hp := hw_pl hl1
    rw [List.getElem?_append_left (by omega), s4 (hw_p k) (by omega) (fun j hj => by omega), List.getElem?_append_left (by rw [hw_28_n]; exact hp)]
    exact hw_at hk
  · rw [hwP_n] at hj
    have hp := hw_pl hj
    by_cases z : k < 1
    · rw [s2 k z]
      omega
    · have := s3 k (by omega)
      omega
  · rw [hwP_n] at hj
    have hp := hw_pl hj
    omega
  · have := s1.lt hk
    omega
  · rw [List.getElem?_append_right (by omega), hl]
    rfl
  · rw [List.length_append, hl, hwP_n, hcl]
    rfl
  · rw [ab_z_app, hz, hw_pz]
    rfl
set_option maxRecDepth 100000 in
set_option maxHeartbeats 0 in
theorem lw_start {z4 z5 z6 : Value} {xs : Nat → Int32} (h4 : z4 = .null ∨ z4 = .retAddr 4) (h5 : z5 = .null ∨ z5 = .retAddr 5) (h6 : z6 = .null ∨ z6 = .retAddr 6) {L : Nat} (hL : L ≤ 3072) : ab_fin (hb_Gz (some z4, some z5, some z6) (some (0, L, fun i => .int (xs i)))) hb_GT 2046 (mL_law, []) 0 (lv_args 0 [.retAddr 9]) [] [] QLw := by
  show ab_fin _ _ (2045 + 1) _ 0 [(0, .retAddr 9)] [] [] _
  refine ab_fin.newO (ix := 8) (n := 0) (h1 := hw_27) (pc' := 3) (by decide +kernel) rfl rfl rfl rfl ?_
  refine ab_fin.s1 (i := .dup) (k := 1) (pc' := 4) (st' := [.ref 0, .ref 0]) (by decide +kernel) rfl rfl ?_
  refine ab_fin.known (i := .invokespecial 65) (k := 3) (y := 3072) (As := [.ref 0]) (rest := [.ref 0]) (M' := (mX12_init, [])) (v := none) (pc' := 7) (st' := [.ref 0]) (h1 := hw_28) (by decide +kernel) (ab_ci (Or.inl rfl) rfl rfl ⟨(Nat.le_of_ble_eq_true rfl), (Nat.le_of_ble_eq_true rfl)⟩ rfl) rfl (Nat.le_of_ble_eq_true rfl) (p1_newC h4) rfl rfl ?_
  refine ab_fin.s2 (i := .astore_n 1) (k := 1) (pc' := 8) (lv' := [(1, .ref 0), (0, .retAddr 9)]) (st' := []) (by decide +kernel) rfl rfl ?_
  refine ab_fin.newO (ix := 66) (n := 102) (h1 := hw_28 ++ [.inr (.inr (24, hm_F0))]) (pc' := 11) (by decide +kernel) rfl hw_28_n rfl rfl ?_
  refine ab_fin.s1 (i := .dup) (k := 1) (pc' := 12) (st' := [.ref 102, .ref 102]) (by decide +kernel) rfl rfl ?_
  refine ab_fin.call (i := .invokespecial 68) (k := 3) (y := 5989) (As := [.ref 102]) (rest := [.ref 102]) (M' := (mX23_init, [])) (by decide +kernel) (ab_ci (Or.inl rfl) rfl rfl ⟨(Nat.le_of_ble_eq_true rfl), (Nat.le_of_ble_eq_true rfl)⟩ rfl) rfl (Nat.le_of_ble_eq_true rfl) ?_
  show ab_fin _ _ _ _ 0 [(0, .ref 102)] [] _ _
  obtain ⟨r0, h1, f', h', q, ev, s1, s2, s3, s4, s5, s6, s7⟩ := em_run (T := hb_GT) (hb_pure h4 h5 h6) em_st (by decide) (d := 2045) (M := (mX23_init, [])) (lv := fun a => [(0, .ref a)]) (fun g => rfl) (hm_newQ (L := L) (xs := xs) h4 h5 h6 (d := 2031) (by decide))
  refine ⟨_, h', ev, ?_⟩
  obtain ⟨rfl, τ, rfl, hn, hA⟩ := q
  have hcl : (conc τ).length = 3365 := by rw [conc_len]; exact hn
  have hlen : h'.length = 3467 := by
    rw [hcl, List.length_append, hw_28_n] at s5
    simp only [List.length_singleton] at s5
    omega
  have hzz : ab_z h' = ab_z hw_28 + ab_z (conc τ) := by
    rw [ab_z_app] at s6
    omega
  have W2 := st_two hn s1 s2 s3 s4 hlen hzz
  show ab_bk _ _ _ _ _ _ _ _ _ (.inl none) _
  refine ab_bk.back (pc' := 15) (st' := [.ref 102]) rfl rfl ?_
  refine ab_fin.s2 (i := .astore_n 2) (k := 1) (pc' := 16) (lv' := [(2, .ref 102), (1, .ref 0), (0, .retAddr 9)]) (st' := []) (by decide +kernel) rfl rfl ?_
  refine ab_fin.s1i (i := .iconst 1) (k := 1) (pc' := 17) (n := 1) (by decide +kernel) rfl (by decide +kernel) rfl ?_
  refine ab_fin.newA (a := .long) (n := 3467) (h1 := h' ++ [.inr (.inl (1, .inr (.inl (List.replicate 1 0))))]) (pc' := 19) (by decide +kernel) rfl (by decide +kernel) hlen rfl rfl ?_
  refine ab_fin.s2 (i := .astore_n 3) (k := 1) (pc' := 20) (lv' := [(3, .ref 3467), (2, .ref 102), (1, .ref 0), (0, .retAddr 9)]) (st' := []) (by decide +kernel) rfl rfl ?_
  refine ab_fin.s1i (i := .iconst 0) (k := 1) (pc' := 21) (n := Int32.ofNat (6 * 0)) (by decide +kernel) rfl (by decide +kernel) rfl ?_
  refine ab_fin.s2 (i := .istore 4) (k := 2) (pc' := 23) (lv' := [(4, .int (Int32.ofNat (6 * 0))), (3, .ref 3467), (2, .ref 102), (1, .ref 0), (0, .retAddr 9)]) (st' := []) (by decide +kernel) rfl rfl ?_
  exact lw_at hL (hb_pure h4 h5 h6) ⟨z4, z5, z6, L, xs, rfl, h4, h5, h6⟩ 512 0 _ rfl ⟨W0, .nil, fun _ => 0, 0, 0, 0, 10000, 0, none, [], sgC, τ, 0, hw_p, f', W2, sC_ClA, hA, PuW.w0, fun e => by cases e⟩
/-- THE LAW -/
theorem lw_all (L : Nat) (xs : Nat → Int32) (hL : L ≤ 3072) : hb_Law L xs := by
  intro z4 z5 z6 h4 h5 h6
  obtain ⟨r, h', e, rfl, q1, q2⟩ := lw_start (xs := xs) h4 h5 h6 hL
  exact ⟨h', e, q1, q2⟩

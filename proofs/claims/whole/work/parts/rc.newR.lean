/-! THE REFERENCE, NEW: its constructor's run -/
theorem sR_37 {k : Nat} (h : k < 8192) : sgR.i 37 k = 0 := by
  have e : hm_H5[37]? = some (.inr (.inl (2, .inl (List.replicate 8192 0)))) := ab_eqI_ok (by decide +kernel)
  show unI hm_H5[37]? k = 0
  rw [e]
  show (List.replicate 8192 (0 : Int32)).getD k 0 = 0
  rw [List.getD, List.getElem?_replicate]
  split <;> rfl
theorem sR_0 : ∀ k : Fin 5, sgR.i 0 (80 + k.val) = if k.val = 1 then 10000 else 0 := by decide +kernel
theorem sR_z : sgR.i 0 15 = 0 ∧ sgR.i 0 85 = 0 ∧ sgR.i 0 86 = 0 ∧ sgR.i 0 96 = 0 ∧ sgR.i 0 111 = 0 ∧ sgR.i 0 112 = 0 ∧ sgR.i 6 2 = 0 ∧ sgR.i 8 2 = 0 ∧ sgR.i 7 1 = 0 := by decide +kernel
theorem sR_r : sgR.r 6 1 = Rf.old 7 ∧ sgR.r 8 1 = Rf.old 7 := by
  constructor
  · show (if cstR 6 1 = true then r0R 6 1 else unR hm_H5[6]? 1) = Rf.old 7
    decide +kernel
  · show (if cstR 8 1 = true then r0R 8 1 else unR hm_H5[8]? 1) = Rf.old 7
    decide +kernel
theorem sR_sh : sgR.sh = sh0R := hm_s5
theorem sR_RfA {τ : Sg} (Fτ : FX ΦR τ.sh τ.r) (s : τ.sh = sgR.sh) (r : ∀ a k, ¬ (a = 0 ∧ k = 10) → τ.r a k = sgR.r a k) (r10 : τ.r 0 10 = Rf.nul) (i : ∀ a k, ¬ (10 ≤ a ∧ a ≤ 36) → ¬ (2193 ≤ a ∧ a < 2220) → ¬ (1881 ≤ a ∧ a < 1905) → ¬ (1930 ≤ a ∧ a ≤ 1932) → a ≠ 2069 → ¬ (a = 5 ∧ k = 1) → ¬ (a = 0 ∧ ((4 ≤ k ∧ k ≤ 7) ∨ k = 41)) → τ.i a k = sgR.i a k) (e5 : τ.i 5 1 = 0) (w3 : W3 W0.1 W0.2.1 W0.2.2.1 τ) (e6 : τ.i 0 6 = 0) (B : RbR W0.1 W0.2.1 W0.2.2.2 τ) (Mm : ∀ k, k < 8192 → τ.i 2069 k = -1) : RfA W0 .nil (fun _ => 0) 0 0 0 10000 0 none [] 0 τ := by
  have z0 : ∀ k, ¬ ((4 ≤ k ∧ k ≤ 7) ∨ k = 41) → τ.i 0 k = sgR.i 0 k := fun k z => i 0 k (by omega) (by omega) (by omega) (by omega) (by omega) (by omega) (by omega)
  have za : ∀ a k, a = 6 ∨ a = 7 ∨ a = 8 ∨ a = 37 → τ.i a k = sgR.i a k := fun a k z => i a k (by omega) (by omega) (by omega) (by omega) (by omega) (by omega) (by omega)
  obtain ⟨y1, y2, y3, y4, y5, y6, y7, y8, y9⟩ := sR_z
  have ls : ∀ A, A = 6 ∨ A = 8 → sgR.i A 2 = 0 → sgR.r A 1 = Rf.old 7 → sh0R[A]? = some (Sh.obj 0) → LsS τ A [] 0 := fun A hA h1 h2 h3 => ⟨Fτ.s h3, (za A 2 (by omega)).trans h1, Nat.le_refl _, fun v hv => (by cases hv), List.Pairwise.nil, Or.inl ⟨rfl, (r A 1 (by omega)).trans h2⟩⟩
  have RR : RefR W0 .nil (fun _ => 0) 0 0 [] 0 0 [] 0 τ := by
    refine ⟨Fτ, w3, ⟨e6, by decide⟩, fun j x hx => (by cases hx), B, ⟨⟨by decide, (z0 15 (by decide)).trans y1, fun k hk => (za 37 k (by omega)).trans (sR_37 hk), fun k => (by show (0 : Int32).toInt ≤ 127; decide)⟩, fun k => by_0⟩, ⟨ls 6 (Or.inl rfl) y7 sR_r.1 (by decide +kernel), e5, Nat.le_refl _, by decide, by decide⟩, ⟨ls 8 (Or.inr rfl) y8 sR_r.2 (by decide +kernel), (za 7 1 (by omega)).trans y9, Nat.le_refl _, by decide, by decide⟩, ⟨fun v hv => (by cases hv), fun b hb => ?_⟩, r10⟩
    rw [r 6 1 (by decide), sR_r.1] at hb
    cases hb
  refine ⟨0, [], 0, 0, [], 0, RR, ⟨(z0 83 (by decide)).trans (sR_0 3), by decide⟩, ⟨(z0 82 (by decide)).trans (sR_0 2), by decide⟩, ⟨(z0 81 (by decide)).trans (sR_0 1), by decide, by decide⟩, MmR.new Mm, fun c hc => (by cases hc), (z0 112 (by decide)).trans y6, ⟨(z0 96 (by decide)).trans y4, (z0 80 (by decide)).trans (sR_0 0), (z0 84 (by decide)).trans (sR_0 4), ⟨(z0 85 (by decide)).trans y2, by decide, fun i x hx => (by cases hx)⟩, (z0 86 (by decide)).trans y3, by decide, by decide, fun i x hx => (by cases hx)⟩, ⟨(z0 111 (by decide)).trans y5, by decide, fun k x hx => (by cases hx)⟩, by decide, ?_⟩
  rw [s, sR_sh]
  refine ⟨Nat.le_trans (Nat.le_of_eq (show sh0R.length = 3365 from by decide +kernel)) (Nat.le_trans (Nat.le_add_right _ _) (Nat.le_add_right _ _)), ?_⟩
  exact Nat.le_trans (Nat.le_add_right _ _) (Nat.le_trans (Nat.le_add_right _ _) (Nat.le_add_right _ _))
set_option maxRecDepth 100000 in
theorem hm_newQ {z4 z5 z6 : Value} {L : Nat} {xs : Nat → Int32} (h4 : z4 = .null ∨ z4 = .retAddr 4) (h5 : z5 = .null ∨ z5 = .retAddr 5) (h6 : z6 = .null ∨ z6 = .retAddr 6) {d : Nat} (hd : 40 ≤ d) : ab_fin (hb_Gz (some z4, some z5, some z6) (some (0, L, fun i => .int (xs i)))) hb_GT (d + 14) (mX23_init, []) 0 [(0, .ref 0)] [] [.inr (.inr (24, hm_F0))] (fun r0 h => r0 = .inl none ∧ ∃ τ, h = conc τ ∧ τ.sh.length = 3365 ∧ RfA W0 .nil (fun _ => 0) 0 0 0 10000 0 none [] 0 τ) := by
  show ab_fin _ _ (d + 13 + 1) _ 0 [(0, .ref 0)] [] _ _
  refine hm_straight h4 h5 h6 (by omega) ?_
  show ab_fin _ _ _ _ _ _ _ hm_H0 _
  refine ab_fin.s1i (i := .iconst 0) (k := 1) (pc' := 559) (n := Int32.ofNat 0) (by decide +kernel) rfl (by decide +kernel) rfl ?_
  refine ab_fin.s2 (i := .istore_n 1) (k := 1) (pc' := 560) (lv' := [(1, .int (Int32.ofNat 0)), (0, .ref 0)]) (st' := []) (by decide +kernel) rfl rfl ?_
  refine hm_lpKind h4 h5 h6 (by omega) (F := hm_F) rfl 24 0 _ (List.replicate 24 none) rfl List.length_replicate hm_H0_0 hm_H0_A ?_
  rw [hm_step (z := 9) (fun _ => rfl) hm_H0_n hm_H0_A]
  show ab_fin _ _ _ _ _ _ _ hm_H1 _
  refine ab_fin.s1i (i := .iconst 0) (k := 1) (pc' := 586) (n := Int32.ofNat 0) (by decide +kernel) rfl (by decide +kernel) rfl ?_
  refine ab_fin.s2 (i := .istore_n 1) (k := 1) (pc' := 587) (lv' := [(1, .int (Int32.ofNat 0)), (0, .ref 0)]) (st' := []) (by decide +kernel) rfl rfl ?_
  refine hm_lpCall h4 h5 h6 (by omega) (F := hm_F) rfl 24 0 _ (List.replicate 24 none) rfl List.length_replicate hm_H1_0 hm_H1_A ?_
  rw [hm_step (z := 3) (fun _ => rfl) hm_H1_n hm_H1_A]
  show ab_fin _ _ _ _ _ _ _ hm_H2 _
  refine ab_fin.s1i (i := .iconst 0) (k := 1) (pc' := 613) (n := Int32.ofNat 0) (by decide +kernel) rfl (by decide +kernel) rfl ?_
  refine ab_fin.s2 (i := .istore_n 1) (k := 1) (pc' := 614) (lv' := [(1, .int (Int32.ofNat 0)), (0, .ref 0)]) (st' := []) (by decide +kernel) rfl rfl ?_
  refine hm_lpName h4 h5 h6 (by omega) (F := hm_F) rfl 8 0 _ (List.replicate 8 none) rfl List.length_replicate hm_H2_0 hm_H2_A ?_
  rw [hm_step (z := 2) (fun _ => rfl) hm_H2_n hm_H2_A]
  show ab_fin _ _ _ _ _ _ _ hm_H3 _
  refine ab_fin.s1i (i := .iconst 0) (k := 1) (pc' := 640) (n := Int32.ofNat 0) (by decide +kernel) rfl (by decide +kernel) rfl ?_
  refine ab_fin.s2 (i := .istore_n 1) (k := 1) (pc' := 641) (lv' := [(1, .int (Int32.ofNat 0)), (0, .ref 0)]) (st' := []) (by decide +kernel) rfl rfl ?_
  refine hm_lpMethod h4 h5 h6 (by omega) (F := hm_F) rfl 121 0 _ (List.replicate 121 none) rfl List.length_replicate hm_H3_0 hm_H3_A ?_
  rw [hm_step (z := 4) (fun _ => rfl) hm_H3_n hm_H3_A]
  show ab_fin _ _ _ _ _ _ _ hm_H4 _
  refine ab_fin.s1i (i := .iconst 0) (k := 1) (pc' := 667) (n := Int32.ofNat 0) (by decide +kernel) rfl (by decide +kernel) rfl ?_
  refine ab_fin.s2 (i := .istore_n 1) (k := 1) (pc' := 668) (lv' := [(1, .int (Int32.ofNat 0)), (0, .ref 0)]) (st' := []) (by decide +kernel) rfl rfl ?_
  refine hm_lpChoice h4 h5 h6 (by omega) (F := hm_F) rfl 48 0 _ (List.replicate 48 none) rfl List.length_replicate hm_H4_0 hm_H4_A ?_
  rw [hm_step (z := 8) (fun _ => rfl) hm_H4_n hm_H4_A]
  show ab_fin _ _ _ _ _ _ _ hm_H5 _
  refine ab_fin.s2 (i := .aload_n 0) (k := 1) (pc' := 697) (lv' := [(1, .int (Int32.ofNat 48)), (0, .ref 0)]) (st' := [.ref 0]) (by decide +kernel) rfl rfl ?_
  refine ab_fin.call (i := .invokevirtual 980) (k := 3) (y := 5990) (As := [.ref 0]) (rest := []) (M' := (mX23_beginning, [])) (by decide +kernel) (ab_cv rfl rfl hm_B0 ⟨(Nat.le_of_ble_eq_true rfl), (Nat.le_of_ble_eq_true rfl)⟩ rfl) rfl (Nat.le_of_ble_eq_true rfl) ?_
  show ab_fin _ _ _ _ 0 [(0, .ref 0)] [] _ _
  rw [← sgR_c]
  have hb := rf_beginning (Z := ((some z4, some z5, some z6), (0, L, fun i => .int (xs i)))) (d := d + 13) (σ := sgR) (K := fun r τ => r = .inl none ∧ τ.sh.length = 3365 ∧ RfA W0 .nil (fun _ => 0) 0 0 0 10000 0 none [] 0 τ) (lst := []) (m0 := 0) ⟨z4, z5, z6, L, xs, rfl, h4, h5, h6⟩ (by omega) sgR_F (fun τ Fτ s r r10 i l e5 w3 e6 B Mm => ⟨rfl, by rw [s, sR_sh]; decide +kernel, sR_RfA Fτ s r r10 i e5 w3 e6 B Mm⟩)
  refine ab_fin.mono hb (fun r h' q => ?_)
  obtain ⟨τ, rfl, -, rfl, hn, hA⟩ := q
  refine ab_bk.back (pc' := 700) (st' := []) rfl rfl ?_
  exact ab_fin.ret (i := .return_) (k := 1) none (by decide +kernel) rfl ⟨rfl, τ, rfl, hn, hA⟩

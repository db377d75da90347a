/-! THE CLASS, PIECE BY PIECE (printed by sgen.py), 4 -/
theorem T_X4_joinTwo_0 {Z : zT} {d : Nat} {σ : Sg} {l0 : Int32} {l1 : Int32} {l2 : Int32} {K : kS} (F : FX ΦC σ.sh σ.r) (w : (l0 = 5 → K (.inl (some (.int (l1 + l2)))) σ) ∧ (l0 = 6 → K (.inl (some (.int (l1 - l2)))) σ) ∧ (l0 = 7 → K (.inl (some (.int (l1 * l2)))) σ) ∧ (l0 = 8 → (¬ l2 = 0 → ¬ l2 = 0 ∧ (K (.inl (some (.int (l1 / l2)))) σ)) ∧ (l2 = 0 → K (.inl (some (.int 0))) σ)) ∧ (l0 = 9 → (l2 ≤ l1 → K (.inl (some (.int 0))) σ) ∧ (¬ l2 ≤ l1 → K (.inl (some (.int 1))) σ)) ∧ (l0 = 10 → (l2 < l1 → K (.inl (some (.int 0))) σ) ∧ (¬ l2 < l1 → K (.inl (some (.int 1))) σ)) ∧ (¬ l0 = 5 → ¬ l0 = 6 → ¬ l0 = 7 → ¬ l0 = 8 → ¬ l0 = 9 → ¬ l0 = 10 → (¬ l1 = l2 → K (.inl (some (.int 0))) σ) ∧ (l1 = l2 → K (.inl (some (.int 1))) σ))) : C_X4_joinTwo_0 Z (d + 1) σ l0 l1 l2 K := by
  unfold C_X4_joinTwo_0
  refine ab_fin.s2 (i := .iload_n 0) (k := 1) (pc' := 1) (lv' := [(0, .int l0), (1, .int l1), (2, .int l2)]) (st' := [.int l0]) (by decide +kernel) rfl rfl ?_
  by_cases q0 : l0 = 5
  · refine ab_fin.s3 (i := .tableswitch 85 5 10 #[39, 43, 47, 51, 63, 74]) (k := 39) (t := 40) (st' := []) (by decide +kernel) (by rw [q0]; exact ab_swI (off := 39) (by decide +kernel) (by decide +kernel) (by decide +kernel)) ?_
    replace w := w.1 q0
    refine ab_fin.s2 (i := .iload_n 1) (k := 1) (pc' := 41) (lv' := [(0, .int l0), (1, .int l1), (2, .int l2)]) (st' := [.int l1]) (by decide +kernel) rfl rfl ?_
    refine ab_fin.s2 (i := .iload_n 2) (k := 1) (pc' := 42) (lv' := [(0, .int l0), (1, .int l1), (2, .int l2)]) (st' := [.int l2, .int l1]) (by decide +kernel) rfl rfl ?_
    refine ab_fin.s1 (i := .iadd) (k := 1) (pc' := 43) (st' := [.int (l1 + l2)]) (by decide +kernel) rfl rfl ?_
    exact ab_fin.q_ret (i := .ireturn) (k := 1) (v := some (.int (l1 + l2))) (by decide +kernel) rfl F w
  by_cases q1 : l0 = 6
  · refine ab_fin.s3 (i := .tableswitch 85 5 10 #[39, 43, 47, 51, 63, 74]) (k := 39) (t := 44) (st' := []) (by decide +kernel) (by rw [q1]; exact ab_swI (off := 43) (by decide +kernel) (by decide +kernel) (by decide +kernel)) ?_
    replace w := w.2.1 q1
    refine ab_fin.s2 (i := .iload_n 1) (k := 1) (pc' := 45) (lv' := [(0, .int l0), (1, .int l1), (2, .int l2)]) (st' := [.int l1]) (by decide +kernel) rfl rfl ?_
    refine ab_fin.s2 (i := .iload_n 2) (k := 1) (pc' := 46) (lv' := [(0, .int l0), (1, .int l1), (2, .int l2)]) (st' := [.int l2, .int l1]) (by decide +kernel) rfl rfl ?_
    refine ab_fin.s1 (i := .isub) (k := 1) (pc' := 47) (st' := [.int (l1 - l2)]) (by decide +kernel) rfl rfl ?_
    exact ab_fin.q_ret (i := .ireturn) (k := 1) (v := some (.int (l1 - l2))) (by decide +kernel) rfl F w
  by_cases q2 : l0 = 7
  · refine ab_fin.s3 (i := .tableswitch 85 5 10 #[39, 43, 47, 51, 63, 74]) (k := 39) (t := 48) (st' := []) (by decide +kernel) (by rw [q2]; exact ab_swI (off := 47) (by decide +kernel) (by decide +kernel) (by decide +kernel)) ?_
    replace w := w.2.2.1 q2
    refine ab_fin.s2 (i := .iload_n 1) (k := 1) (pc' := 49) (lv' := [(0, .int l0), (1, .int l1), (2, .int l2)]) (st' := [.int l1]) (by decide +kernel) rfl rfl ?_
    refine ab_fin.s2 (i := .iload_n 2) (k := 1) (pc' := 50) (lv' := [(0, .int l0), (1, .int l1), (2, .int l2)]) (st' := [.int l2, .int l1]) (by decide +kernel) rfl rfl ?_
    refine ab_fin.s1 (i := .imul) (k := 1) (pc' := 51) (st' := [.int (l1 * l2)]) (by decide +kernel) rfl rfl ?_
    exact ab_fin.q_ret (i := .ireturn) (k := 1) (v := some (.int (l1 * l2))) (by decide +kernel) rfl F w
  by_cases q3 : l0 = 8
  · refine ab_fin.s3 (i := .tableswitch 85 5 10 #[39, 43, 47, 51, 63, 74]) (k := 39) (t := 52) (st' := []) (by decide +kernel) (by rw [q3]; exact ab_swI (off := 51) (by decide +kernel) (by decide +kernel) (by decide +kernel)) ?_
    replace w := w.2.2.2.1 q3
    refine ab_fin.s2 (i := .iload_n 2) (k := 1) (pc' := 53) (lv' := [(0, .int l0), (1, .int l1), (2, .int l2)]) (st' := [.int l2]) (by decide +kernel) rfl rfl ?_
    refine ab_fin.br (c := ¬ l2 = 0) (i := .ifCond .ne 7) (off := 7) (t := 60) (pc' := 56) (r := []) (by decide +kernel) rfl (by decide +kernel) rfl (fun q => ?_) (fun q => ?_)
    · replace w := w.1 q
      refine ab_fin.s2 (i := .iload_n 1) (k := 1) (pc' := 61) (lv' := [(0, .int l0), (1, .int l1), (2, .int l2)]) (st' := [.int l1]) (by decide +kernel) rfl rfl ?_
      refine ab_fin.s2 (i := .iload_n 2) (k := 1) (pc' := 62) (lv' := [(0, .int l0), (1, .int l1), (2, .int l2)]) (st' := [.int l2, .int l1]) (by decide +kernel) rfl rfl ?_
      obtain ⟨c1, w⟩ := w
      refine ab_fin.q_div (pc' := 63) (by decide +kernel) c1 rfl ?_
      exact ab_fin.q_ret (i := .ireturn) (k := 1) (v := some (.int (l1 / l2))) (by decide +kernel) rfl F w
    · replace w := w.2 (Decidable.of_not_not q)
      refine ab_fin.s1i (i := .iconst 0) (k := 1) (pc' := 57) (n := 0) (by decide +kernel) rfl (by decide +kernel) rfl ?_
      refine ab_fin.s3 (i := .goto 6) (k := 3) (t := 63) (st' := [.int 0]) (by decide +kernel) (ab_gto (by decide +kernel)) ?_
      exact ab_fin.q_ret (i := .ireturn) (k := 1) (v := some (.int 0)) (by decide +kernel) rfl F w
  by_cases q4 : l0 = 9
  · refine ab_fin.s3 (i := .tableswitch 85 5 10 #[39, 43, 47, 51, 63, 74]) (k := 39) (t := 64) (st' := []) (by decide +kernel) (by rw [q4]; exact ab_swI (off := 63) (by decide +kernel) (by decide +kernel) (by decide +kernel)) ?_
    replace w := w.2.2.2.2.1 q4
    refine ab_fin.s2 (i := .iload_n 1) (k := 1) (pc' := 65) (lv' := [(0, .int l0), (1, .int l1), (2, .int l2)]) (st' := [.int l1]) (by decide +kernel) rfl rfl ?_
    refine ab_fin.s2 (i := .iload_n 2) (k := 1) (pc' := 66) (lv' := [(0, .int l0), (1, .int l1), (2, .int l2)]) (st' := [.int l2, .int l1]) (by decide +kernel) rfl rfl ?_
    refine ab_fin.br (c := l2 ≤ l1) (i := .if_icmp .ge 7) (off := 7) (t := 73) (pc' := 69) (r := []) (by decide +kernel) rfl (by decide +kernel) rfl (fun q => ?_) (fun q => ?_)
    · replace w := w.1 q
      refine ab_fin.s1i (i := .iconst 0) (k := 1) (pc' := 74) (n := 0) (by decide +kernel) rfl (by decide +kernel) rfl ?_
      exact ab_fin.q_ret (i := .ireturn) (k := 1) (v := some (.int 0)) (by decide +kernel) rfl F w
    · replace w := w.2 q
      refine ab_fin.s1i (i := .iconst 1) (k := 1) (pc' := 70) (n := 1) (by decide +kernel) rfl (by decide +kernel) rfl ?_
      refine ab_fin.s3 (i := .goto 4) (k := 3) (t := 74) (st' := [.int 1]) (by decide +kernel) (ab_gto (by decide +kernel)) ?_
      exact ab_fin.q_ret (i := .ireturn) (k := 1) (v := some (.int 1)) (by decide +kernel) rfl F w
  by_cases q5 : l0 = 10
  · refine ab_fin.s3 (i := .tableswitch 85 5 10 #[39, 43, 47, 51, 63, 74]) (k := 39) (t := 75) (st' := []) (by decide +kernel) (by rw [q5]; exact ab_swI (off := 74) (by decide +kernel) (by decide +kernel) (by decide +kernel)) ?_
    replace w := w.2.2.2.2.2.1 q5
    refine ab_fin.s2 (i := .iload_n 1) (k := 1) (pc' := 76) (lv' := [(0, .int l0), (1, .int l1), (2, .int l2)]) (st' := [.int l1]) (by decide +kernel) rfl rfl ?_
    refine ab_fin.s2 (i := .iload_n 2) (k := 1) (pc' := 77) (lv' := [(0, .int l0), (1, .int l1), (2, .int l2)]) (st' := [.int l2, .int l1]) (by decide +kernel) rfl rfl ?_
    refine ab_fin.br (c := l2 < l1) (i := .if_icmp .gt 7) (off := 7) (t := 84) (pc' := 80) (r := []) (by decide +kernel) rfl (by decide +kernel) rfl (fun q => ?_) (fun q => ?_)
    · replace w := w.1 q
      refine ab_fin.s1i (i := .iconst 0) (k := 1) (pc' := 85) (n := 0) (by decide +kernel) rfl (by decide +kernel) rfl ?_
      exact ab_fin.q_ret (i := .ireturn) (k := 1) (v := some (.int 0)) (by decide +kernel) rfl F w
    · replace w := w.2 q
      refine ab_fin.s1i (i := .iconst 1) (k := 1) (pc' := 81) (n := 1) (by decide +kernel) rfl (by decide +kernel) rfl ?_
      refine ab_fin.s3 (i := .goto 4) (k := 3) (t := 85) (st' := [.int 1]) (by decide +kernel) (ab_gto (by decide +kernel)) ?_
      exact ab_fin.q_ret (i := .ireturn) (k := 1) (v := some (.int 1)) (by decide +kernel) rfl F w
  have hsw : ab_s3 (.tableswitch 85 5 10 #[39, 43, 47, 51, 63, 74]) 39 1 (.int l0 :: []) = some (86, []) := by
    clear w
    have qd : Int32.toInt l0 < 5 ∨ 10 < Int32.toInt l0 := by
      simp only [← Int32.toInt_inj, show (5 : Int32).toInt = 5 from rfl, show (6 : Int32).toInt = 6 from rfl, show (7 : Int32).toInt = 7 from rfl, show (8 : Int32).toInt = 8 from rfl, show (9 : Int32).toInt = 9 from rfl, show (10 : Int32).toInt = 10 from rfl] at q0 q1 q2 q3 q4 q5 
      omega
    exact ab_swD qd (by decide +kernel)
  refine ab_fin.s3 (i := .tableswitch 85 5 10 #[39, 43, 47, 51, 63, 74]) (k := 39) (t := 86) (st' := []) (by decide +kernel) hsw ?_
  replace w := w.2.2.2.2.2.2 q0 q1 q2 q3 q4 q5
  refine ab_fin.s2 (i := .iload_n 1) (k := 1) (pc' := 87) (lv' := [(0, .int l0), (1, .int l1), (2, .int l2)]) (st' := [.int l1]) (by decide +kernel) rfl rfl ?_
  refine ab_fin.s2 (i := .iload_n 2) (k := 1) (pc' := 88) (lv' := [(0, .int l0), (1, .int l1), (2, .int l2)]) (st' := [.int l2, .int l1]) (by decide +kernel) rfl rfl ?_
  refine ab_fin.br (c := ¬ l1 = l2) (i := .if_icmp .ne 7) (off := 7) (t := 95) (pc' := 91) (r := []) (by decide +kernel) rfl (by decide +kernel) rfl (fun q => ?_) (fun q => ?_)
  · replace w := w.1 q
    refine ab_fin.s1i (i := .iconst 0) (k := 1) (pc' := 96) (n := 0) (by decide +kernel) rfl (by decide +kernel) rfl ?_
    exact ab_fin.q_ret (i := .ireturn) (k := 1) (v := some (.int 0)) (by decide +kernel) rfl F w
  · replace w := w.2 (Decidable.of_not_not q)
    refine ab_fin.s1i (i := .iconst 1) (k := 1) (pc' := 92) (n := 1) (by decide +kernel) rfl (by decide +kernel) rfl ?_
    refine ab_fin.s3 (i := .goto 4) (k := 3) (t := 96) (st' := [.int 1]) (by decide +kernel) (ab_gto (by decide +kernel)) ?_
    exact ab_fin.q_ret (i := .ireturn) (k := 1) (v := some (.int 1)) (by decide +kernel) rfl F w
theorem T_X4_showTop_0 {Z : zT} {d : Nat} {σ : Sg}  {K : kS} (F : FX ΦC σ.sh σ.r) (w : ((σ.i 83 16) < 512 → C_X4_pop_0 Z d σ  (yL K fun v3 τ1 => ib (τ1.i 83 16) 512 ∧ (C_X4_push_0 Z d ((τ1.wi 96 ((τ1.i 83 16).toNatClampNeg) ((Int64.toInt32 v3))).wi 83 16 ((τ1.i 83 16) + (1 : Int32))) v3 (yN K fun τ5 => K (.inl none) τ5)))) ∧ (¬ (σ.i 83 16) < 512 → C_X4_finish_0 Z d σ 5 0 0 (yN K fun τ7 => K (.inl none) τ7))) : C_X4_showTop_0 Z (d + 1) σ  K := by
  unfold C_X4_showTop_0
  refine ab_fin.s2 (i := .aload_n 0) (k := 1) (pc' := 1) (lv' := [(0, .ref 83)]) (st' := [.ref 83]) (by decide +kernel) rfl rfl ?_
  refine ab_fin.q_rI (x := (σ.i 83 16)) (ix := 134) (ci := 5) (k := 16) (pc' := 4) (by decide +kernel) rfl (c_rI (F.s t0_83) rfl) rfl ?_
  refine ab_fin.s1i (i := .sipush 512) (k := 3) (pc' := 7) (n := 512) (by decide +kernel) rfl (by decide +kernel) rfl ?_
  refine ab_fin.br (c := (σ.i 83 16) < 512) (i := .if_icmp .lt 13) (off := 13) (t := 20) (pc' := 10) (r := []) (by decide +kernel) rfl (by decide +kernel) rfl (fun q => ?_) (fun q => ?_)
  · replace w := w.1 q
    refine ab_fin.s2 (i := .aload_n 0) (k := 1) (pc' := 21) (lv' := [(0, .ref 83)]) (st' := [.ref 83]) (by decide +kernel) rfl rfl ?_
    refine ab_fin.q_yL (i := .invokevirtual 100) (k := 3) (y := 1031) (As := [.ref 83]) (rest := []) (M' := (mX4_pop, [])) (lv2 := [(0, .ref 83)]) (pc' := 24) (X := K) (by decide +kernel) (ab_cv rfl rfl (conc_get (σ := σ) (F.s t0_83)) ⟨(Nat.le_of_ble_eq_true rfl), (Nat.le_of_ble_eq_true rfl)⟩ rfl) rfl (Nat.le_of_ble_eq_true rfl) rfl rfl (hY_no fun E => rfl) w (fun v3 τ1 F2 w => ?_)
    refine ab_fin.s2 (i := .lstore_n 1) (k := 1) (pc' := 25) (lv' := [(1, .long v3), (0, .ref 83)]) (st' := []) (by decide +kernel) rfl rfl ?_
    refine ab_fin.s2 (i := .aload_n 0) (k := 1) (pc' := 26) (lv' := [(1, .long v3), (0, .ref 83)]) (st' := [.ref 83]) (by decide +kernel) rfl rfl ?_
    refine ab_fin.q_rA (b := 96) (ix := 25) (ci := 5) (k := 15) (pc' := 29) (by decide +kernel) rfl (c_rA (F2.s t0_83) rfl (rC_5_15 F2 t0_83)) rfl ?_
    refine ab_fin.s2 (i := .aload_n 0) (k := 1) (pc' := 30) (lv' := [(1, .long v3), (0, .ref 83)]) (st' := [.ref 83, .ref 96]) (by decide +kernel) rfl rfl ?_
    refine ab_fin.q_rI (x := (τ1.i 83 16)) (ix := 134) (ci := 5) (k := 16) (pc' := 33) (by decide +kernel) rfl (c_rI (F2.s t0_83) rfl) rfl ?_
    refine ab_fin.s2 (i := .lload_n 1) (k := 1) (pc' := 34) (lv' := [(1, .long v3), (0, .ref 83)]) (st' := [.long v3, .int (τ1.i 83 16), .ref 96]) (by decide +kernel) rfl rfl ?_
    refine ab_fin.s1 (i := .l2i) (k := 1) (pc' := 35) (st' := [.int ((Int64.toInt32 v3)), .int (τ1.i 83 16), .ref 96]) (by decide +kernel) rfl rfl ?_
    obtain ⟨e4, w⟩ := w
    refine ab_fin.q_sI (h1 := conc (τ1.wi 96 ((τ1.i 83 16).toNatClampNeg) ((Int64.toInt32 v3)))) (pc' := 36) (by decide +kernel) (c_sI' (F2.s t0_96) e4 rfl) rfl ?_
    refine ab_fin.s2 (i := .aload_n 0) (k := 1) (pc' := 37) (lv' := [(1, .long v3), (0, .ref 83)]) (st' := [.ref 83]) (by decide +kernel) rfl rfl ?_
    refine ab_fin.s1 (i := .dup) (k := 1) (pc' := 38) (st' := [.ref 83, .ref 83]) (by decide +kernel) rfl rfl ?_
    refine ab_fin.q_rI (x := (τ1.i 83 16)) (ix := 134) (ci := 5) (k := 16) (pc' := 41) (by decide +kernel) rfl (c_rI (F2.s t0_83) rfl) rfl ?_
    refine ab_fin.s1i (i := .iconst 1) (k := 1) (pc' := 42) (n := 1) (by decide +kernel) rfl (by decide +kernel) rfl ?_
    refine ab_fin.s1 (i := .iadd) (k := 1) (pc' := 43) (st' := [.int ((τ1.i 83 16) + (1 : Int32)), .ref 83]) (by decide +kernel) rfl rfl ?_
    refine ab_fin.q_pF (ix := 134) (ci := 5) (k := 16) (h1 := conc ((τ1.wi 96 ((τ1.i 83 16).toNatClampNeg) ((Int64.toInt32 v3))).wi 83 16 ((τ1.i 83 16) + (1 : Int32)))) (pc' := 46) (by decide +kernel) rfl (c_pI (v := ((τ1.i 83 16) + (1 : Int32))) (F2.s t0_83) rfl) rfl rfl rfl ?_
    refine ab_fin.s2 (i := .aload_n 0) (k := 1) (pc' := 47) (lv' := [(1, .long v3), (0, .ref 83)]) (st' := [.ref 83]) (by decide +kernel) rfl rfl ?_
    refine ab_fin.s2 (i := .lload_n 1) (k := 1) (pc' := 48) (lv' := [(1, .long v3), (0, .ref 83)]) (st' := [.long v3, .ref 83]) (by decide +kernel) rfl rfl ?_
    refine ab_fin.q_yN (i := .invokevirtual 147) (k := 3) (y := 1030) (As := [.ref 83, .long v3]) (rest := []) (M' := (mX4_push, [])) (lv2 := [(0, .ref 83), (1, .long v3)]) (pc' := 51) (X := K) (by decide +kernel) (ab_cv rfl rfl (conc_get (σ := ((τ1.wi 96 ((τ1.i 83 16).toNatClampNeg) ((Int64.toInt32 v3))).wi 83 16 ((τ1.i 83 16) + (1 : Int32)))) (F2.s t0_83)) ⟨(Nat.le_of_ble_eq_true rfl), (Nat.le_of_ble_eq_true rfl)⟩ rfl) rfl (Nat.le_of_ble_eq_true rfl) rfl rfl (hY_no fun E => rfl) w (fun τ5 F6 w => ?_)
    exact ab_fin.q_ret (i := .return_) (k := 1) (v := none) (by decide +kernel) rfl F6 w
  · replace w := w.2 q
    refine ab_fin.s2 (i := .aload_n 0) (k := 1) (pc' := 11) (lv' := [(0, .ref 83)]) (st' := [.ref 83]) (by decide +kernel) rfl rfl ?_
    refine ab_fin.s1i (i := .iconst 5) (k := 1) (pc' := 12) (n := 5) (by decide +kernel) rfl (by decide +kernel) rfl ?_
    refine ab_fin.s1i (i := .iconst 0) (k := 1) (pc' := 13) (n := 0) (by decide +kernel) rfl (by decide +kernel) rfl ?_
    refine ab_fin.s1l (i := .lconst 0) (k := 1) (pc' := 14) (n := 0) (by decide +kernel) rfl (by decide +kernel) rfl ?_
    refine ab_fin.q_yN (i := .invokevirtual 67) (k := 3) (y := 1029) (As := [.ref 83, .int 5, .int 0, .long 0]) (rest := []) (M' := (mX4_finish, [])) (lv2 := [(0, .ref 83), (1, .int 5), (2, .int 0), (3, .long 0)]) (pc' := 17) (X := K) (by decide +kernel) (ab_cv rfl rfl (conc_get (σ := σ) (F.s t0_83)) ⟨(Nat.le_of_ble_eq_true rfl), (Nat.le_of_ble_eq_true rfl)⟩ rfl) rfl (Nat.le_of_ble_eq_true rfl) rfl rfl (hY_no fun E => rfl) w (fun τ7 F8 w => ?_)
    refine ab_fin.s3 (i := .goto 34) (k := 3) (t := 51) (st' := []) (by decide +kernel) (ab_gto (by decide +kernel)) ?_
    exact ab_fin.q_ret (i := .return_) (k := 1) (v := none) (by decide +kernel) rfl F8 w
theorem T_X4_beginTry_0 {Z : zT} {d : Nat} {σ : Sg} {l1 : Int32} {K : kS} (F : FX ΦC σ.sh σ.r) (w : C_X4_push_0 Z d σ (σ.l 83 10) (yN K fun τ1 => C_X4_push_0 Z d τ1 ((Int32.toInt64 (τ1.i 83 6))) (yN K fun τ3 => C_X4_push_0 Z d τ3 ((Int32.toInt64 l1)) (yN K fun τ5 => C_X4_push_0 Z d τ5 ((Int32.toInt64 (τ5.i 83 8))) (yN K fun τ7 => K (.inl none) (τ7.wi 83 8 (σ.i 83 5))))))) : C_X4_beginTry_0 Z (d + 1) σ l1 K := by
  unfold C_X4_beginTry_0
  refine ab_fin.s2 (i := .aload_n 0) (k := 1) (pc' := 1) (lv' := [(0, .ref 83), (1, .int l1)]) (st' := [.ref 83]) (by decide +kernel) rfl rfl ?_
  refine ab_fin.q_rI (x := (σ.i 83 5)) (ix := 128) (ci := 5) (k := 5) (pc' := 4) (by decide +kernel) rfl (c_rI (F.s t0_83) rfl) rfl ?_
  refine ab_fin.s2 (i := .istore_n 2) (k := 1) (pc' := 5) (lv' := [(2, .int (σ.i 83 5)), (0, .ref 83), (1, .int l1)]) (st' := []) (by decide +kernel) rfl rfl ?_
  refine ab_fin.s2 (i := .aload_n 0) (k := 1) (pc' := 6) (lv' := [(2, .int (σ.i 83 5)), (0, .ref 83), (1, .int l1)]) (st' := [.ref 83]) (by decide +kernel) rfl rfl ?_
  refine ab_fin.s2 (i := .aload_n 0) (k := 1) (pc' := 7) (lv' := [(2, .int (σ.i 83 5)), (0, .ref 83), (1, .int l1)]) (st' := [.ref 83, .ref 83]) (by decide +kernel) rfl rfl ?_
  refine ab_fin.q_rL (x := (σ.l 83 10)) (ix := 83) (ci := 5) (k := 10) (pc' := 10) (by decide +kernel) rfl (c_rL (F.s t0_83) rfl) rfl ?_
  refine ab_fin.q_yN (i := .invokevirtual 147) (k := 3) (y := 1030) (As := [.ref 83, .long (σ.l 83 10)]) (rest := []) (M' := (mX4_push, [])) (lv2 := [(0, .ref 83), (1, .long (σ.l 83 10))]) (pc' := 13) (X := K) (by decide +kernel) (ab_cv rfl rfl (conc_get (σ := σ) (F.s t0_83)) ⟨(Nat.le_of_ble_eq_true rfl), (Nat.le_of_ble_eq_true rfl)⟩ rfl) rfl (Nat.le_of_ble_eq_true rfl) rfl rfl (hY_no fun E => rfl) w (fun τ1 F2 w => ?_)
  refine ab_fin.s2 (i := .aload_n 0) (k := 1) (pc' := 14) (lv' := [(2, .int (σ.i 83 5)), (0, .ref 83), (1, .int l1)]) (st' := [.ref 83]) (by decide +kernel) rfl rfl ?_
  refine ab_fin.s2 (i := .aload_n 0) (k := 1) (pc' := 15) (lv' := [(2, .int (σ.i 83 5)), (0, .ref 83), (1, .int l1)]) (st' := [.ref 83, .ref 83]) (by decide +kernel) rfl rfl ?_
  refine ab_fin.q_rI (x := (τ1.i 83 6)) (ix := 80) (ci := 5) (k := 6) (pc' := 18) (by decide +kernel) rfl (c_rI (F2.s t0_83) rfl) rfl ?_
  refine ab_fin.s1 (i := .i2l) (k := 1) (pc' := 19) (st' := [.long ((Int32.toInt64 (τ1.i 83 6))), .ref 83]) (by decide +kernel) rfl rfl ?_
  refine ab_fin.q_yN (i := .invokevirtual 147) (k := 3) (y := 1030) (As := [.ref 83, .long ((Int32.toInt64 (τ1.i 83 6)))]) (rest := []) (M' := (mX4_push, [])) (lv2 := [(0, .ref 83), (1, .long ((Int32.toInt64 (τ1.i 83 6))))]) (pc' := 22) (X := K) (by decide +kernel) (ab_cv rfl rfl (conc_get (σ := τ1) (F2.s t0_83)) ⟨(Nat.le_of_ble_eq_true rfl), (Nat.le_of_ble_eq_true rfl)⟩ rfl) rfl (Nat.le_of_ble_eq_true rfl) rfl rfl (hY_no fun E => rfl) w (fun τ3 F4 w => ?_)
  refine ab_fin.s2 (i := .aload_n 0) (k := 1) (pc' := 23) (lv' := [(2, .int (σ.i 83 5)), (0, .ref 83), (1, .int l1)]) (st' := [.ref 83]) (by decide +kernel) rfl rfl ?_
  refine ab_fin.s2 (i := .iload_n 1) (k := 1) (pc' := 24) (lv' := [(2, .int (σ.i 83 5)), (0, .ref 83), (1, .int l1)]) (st' := [.int l1, .ref 83]) (by decide +kernel) rfl rfl ?_
  refine ab_fin.s1 (i := .i2l) (k := 1) (pc' := 25) (st' := [.long ((Int32.toInt64 l1)), .ref 83]) (by decide +kernel) rfl rfl ?_
  refine ab_fin.q_yN (i := .invokevirtual 147) (k := 3) (y := 1030) (As := [.ref 83, .long ((Int32.toInt64 l1))]) (rest := []) (M' := (mX4_push, [])) (lv2 := [(0, .ref 83), (1, .long ((Int32.toInt64 l1)))]) (pc' := 28) (X := K) (by decide +kernel) (ab_cv rfl rfl (conc_get (σ := τ3) (F4.s t0_83)) ⟨(Nat.le_of_ble_eq_true rfl), (Nat.le_of_ble_eq_true rfl)⟩ rfl) rfl (Nat.le_of_ble_eq_true rfl) rfl rfl (hY_no fun E => rfl) w (fun τ5 F6 w => ?_)
  refine ab_fin.s2 (i := .aload_n 0) (k := 1) (pc' := 29) (lv' := [(2, .int (σ.i 83 5)), (0, .ref 83), (1, .int l1)]) (st' := [.ref 83]) (by decide +kernel) rfl rfl ?_
  refine ab_fin.s2 (i := .aload_n 0) (k := 1) (pc' := 30) (lv' := [(2, .int (σ.i 83 5)), (0, .ref 83), (1, .int l1)]) (st' := [.ref 83, .ref 83]) (by decide +kernel) rfl rfl ?_
  refine ab_fin.q_rI (x := (τ5.i 83 8)) (ix := 131) (ci := 5) (k := 8) (pc' := 33) (by decide +kernel) rfl (c_rI (F6.s t0_83) rfl) rfl ?_
  refine ab_fin.s1 (i := .i2l) (k := 1) (pc' := 34) (st' := [.long ((Int32.toInt64 (τ5.i 83 8))), .ref 83]) (by decide +kernel) rfl rfl ?_
  refine ab_fin.q_yN (i := .invokevirtual 147) (k := 3) (y := 1030) (As := [.ref 83, .long ((Int32.toInt64 (τ5.i 83 8)))]) (rest := []) (M' := (mX4_push, [])) (lv2 := [(0, .ref 83), (1, .long ((Int32.toInt64 (τ5.i 83 8))))]) (pc' := 37) (X := K) (by decide +kernel) (ab_cv rfl rfl (conc_get (σ := τ5) (F6.s t0_83)) ⟨(Nat.le_of_ble_eq_true rfl), (Nat.le_of_ble_eq_true rfl)⟩ rfl) rfl (Nat.le_of_ble_eq_true rfl) rfl rfl (hY_no fun E => rfl) w (fun τ7 F8 w => ?_)
  refine ab_fin.s2 (i := .aload_n 0) (k := 1) (pc' := 38) (lv' := [(2, .int (σ.i 83 5)), (0, .ref 83), (1, .int l1)]) (st' := [.ref 83]) (by decide +kernel) rfl rfl ?_
  refine ab_fin.s2 (i := .iload_n 2) (k := 1) (pc' := 39) (lv' := [(2, .int (σ.i 83 5)), (0, .ref 83), (1, .int l1)]) (st' := [.int (σ.i 83 5), .ref 83]) (by decide +kernel) rfl rfl ?_
  refine ab_fin.q_pF (ix := 131) (ci := 5) (k := 8) (h1 := conc (τ7.wi 83 8 (σ.i 83 5))) (pc' := 42) (by decide +kernel) rfl (c_pI (v := (σ.i 83 5)) (F8.s t0_83) rfl) rfl rfl rfl ?_
  exact ab_fin.q_ret (i := .return_) (k := 1) (v := none) (by decide +kernel) rfl F8 w
theorem T_X4_endTry_0 {Z : zT} {d : Nat} {σ : Sg} {l1 : Int32} {K : kS} (F : FX ΦC σ.sh σ.r) (w : C_X4_pop_0 Z d σ  (yL K fun v3 τ1 => C_X4_pop_0 Z d τ1  (yL K fun v6 τ4 => C_X4_push_0 Z d ((τ4.wi 83 8 ((Int64.toInt32 v6))).wi 83 5 ((τ4.i 83 5) - (3 : Int32))) v3 (yN K fun τ7 => K (.inl none) (τ7.wi 83 7 l1))))) : C_X4_endTry_0 Z (d + 1) σ l1 K := by
  unfold C_X4_endTry_0
  refine ab_fin.s2 (i := .aload_n 0) (k := 1) (pc' := 1) (lv' := [(0, .ref 83), (1, .int l1)]) (st' := [.ref 83]) (by decide +kernel) rfl rfl ?_
  refine ab_fin.q_yL (i := .invokevirtual 100) (k := 3) (y := 1031) (As := [.ref 83]) (rest := []) (M' := (mX4_pop, [])) (lv2 := [(0, .ref 83)]) (pc' := 4) (X := K) (by decide +kernel) (ab_cv rfl rfl (conc_get (σ := σ) (F.s t0_83)) ⟨(Nat.le_of_ble_eq_true rfl), (Nat.le_of_ble_eq_true rfl)⟩ rfl) rfl (Nat.le_of_ble_eq_true rfl) rfl rfl (hY_no fun E => rfl) w (fun v3 τ1 F2 w => ?_)
  refine ab_fin.s2 (i := .lstore_n 2) (k := 1) (pc' := 5) (lv' := [(2, .long v3), (0, .ref 83), (1, .int l1)]) (st' := []) (by decide +kernel) rfl rfl ?_
  refine ab_fin.s2 (i := .aload_n 0) (k := 1) (pc' := 6) (lv' := [(2, .long v3), (0, .ref 83), (1, .int l1)]) (st' := [.ref 83]) (by decide +kernel) rfl rfl ?_
  refine ab_fin.s2 (i := .aload_n 0) (k := 1) (pc' := 7) (lv' := [(2, .long v3), (0, .ref 83), (1, .int l1)]) (st' := [.ref 83, .ref 83]) (by decide +kernel) rfl rfl ?_
  refine ab_fin.q_yL (i := .invokevirtual 100) (k := 3) (y := 1031) (As := [.ref 83]) (rest := [.ref 83]) (M' := (mX4_pop, [])) (lv2 := [(0, .ref 83)]) (pc' := 10) (X := K) (by decide +kernel) (ab_cv rfl rfl (conc_get (σ := τ1) (F2.s t0_83)) ⟨(Nat.le_of_ble_eq_true rfl), (Nat.le_of_ble_eq_true rfl)⟩ rfl) rfl (Nat.le_of_ble_eq_true rfl) rfl rfl (hY_no fun E => rfl) w (fun v6 τ4 F5 w => ?_)
  refine ab_fin.s1 (i := .l2i) (k := 1) (pc' := 11) (st' := [.int ((Int64.toInt32 v6)), .ref 83]) (by decide +kernel) rfl rfl ?_
  refine ab_fin.q_pF (ix := 131) (ci := 5) (k := 8) (h1 := conc (τ4.wi 83 8 ((Int64.toInt32 v6)))) (pc' := 14) (by decide +kernel) rfl (c_pI (v := ((Int64.toInt32 v6))) (F5.s t0_83) rfl) rfl rfl rfl ?_
  refine ab_fin.s2 (i := .aload_n 0) (k := 1) (pc' := 15) (lv' := [(2, .long v3), (0, .ref 83), (1, .int l1)]) (st' := [.ref 83]) (by decide +kernel) rfl rfl ?_
  refine ab_fin.s1 (i := .dup) (k := 1) (pc' := 16) (st' := [.ref 83, .ref 83]) (by decide +kernel) rfl rfl ?_
  refine ab_fin.q_rI (x := (τ4.i 83 5)) (ix := 128) (ci := 5) (k := 5) (pc' := 19) (by decide +kernel) rfl (c_rI (F5.s t0_83) rfl) rfl ?_
  refine ab_fin.s1i (i := .iconst 3) (k := 1) (pc' := 20) (n := 3) (by decide +kernel) rfl (by decide +kernel) rfl ?_
  refine ab_fin.s1 (i := .isub) (k := 1) (pc' := 21) (st' := [.int ((τ4.i 83 5) - (3 : Int32)), .ref 83]) (by decide +kernel) rfl rfl ?_
  refine ab_fin.q_pF (ix := 128) (ci := 5) (k := 5) (h1 := conc ((τ4.wi 83 8 ((Int64.toInt32 v6))).wi 83 5 ((τ4.i 83 5) - (3 : Int32)))) (pc' := 24) (by decide +kernel) rfl (c_pI (v := ((τ4.i 83 5) - (3 : Int32))) (F5.s t0_83) rfl) rfl rfl rfl ?_
  refine ab_fin.s2 (i := .aload_n 0) (k := 1) (pc' := 25) (lv' := [(2, .long v3), (0, .ref 83), (1, .int l1)]) (st' := [.ref 83]) (by decide +kernel) rfl rfl ?_
  refine ab_fin.s2 (i := .lload_n 2) (k := 1) (pc' := 26) (lv' := [(2, .long v3), (0, .ref 83), (1, .int l1)]) (st' := [.long v3, .ref 83]) (by decide +kernel) rfl rfl ?_
  refine ab_fin.q_yN (i := .invokevirtual 147) (k := 3) (y := 1030) (As := [.ref 83, .long v3]) (rest := []) (M' := (mX4_push, [])) (lv2 := [(0, .ref 83), (1, .long v3)]) (pc' := 29) (X := K) (by decide +kernel) (ab_cv rfl rfl (conc_get (σ := ((τ4.wi 83 8 ((Int64.toInt32 v6))).wi 83 5 ((τ4.i 83 5) - (3 : Int32)))) (F5.s t0_83)) ⟨(Nat.le_of_ble_eq_true rfl), (Nat.le_of_ble_eq_true rfl)⟩ rfl) rfl (Nat.le_of_ble_eq_true rfl) rfl rfl (hY_no fun E => rfl) w (fun τ7 F8 w => ?_)
  refine ab_fin.s2 (i := .aload_n 0) (k := 1) (pc' := 30) (lv' := [(2, .long v3), (0, .ref 83), (1, .int l1)]) (st' := [.ref 83]) (by decide +kernel) rfl rfl ?_
  refine ab_fin.s2 (i := .iload_n 1) (k := 1) (pc' := 31) (lv' := [(2, .long v3), (0, .ref 83), (1, .int l1)]) (st' := [.int l1, .ref 83]) (by decide +kernel) rfl rfl ?_
  refine ab_fin.q_pF (ix := 53) (ci := 5) (k := 7) (h1 := conc (τ7.wi 83 7 l1)) (pc' := 34) (by decide +kernel) rfl (c_pI (v := l1) (F8.s t0_83) rfl) rfl rfl rfl ?_
  exact ab_fin.q_ret (i := .return_) (k := 1) (v := none) (by decide +kernel) rfl F8 w
theorem T_X4_failWith_0 {Z : zT} {d : Nat} {σ : Sg} {l1 : Int64} {K : kS} (F : FX ΦC σ.sh σ.r) (w : ((σ.i 83 8) < 0 → C_X4_finish_0 Z d (σ.wi 83 9 (0 : Int32)) 1 1 l1 (yN K fun τ1 => K (.inl none) τ1)) ∧ (¬ (σ.i 83 8) < 0 → (((σ.i 83 8) + (4 : Int32)) ≤ 2048 → ib (σ.i 83 8) 2048 ∧ (ib ((σ.i 83 8) + (1 : Int32)) 2048 ∧ (ib ((σ.i 83 8) + (2 : Int32)) 2048 ∧ (ib ((σ.i 83 8) + (3 : Int32)) 2048 ∧ (C_X4_push_0 Z d ((((((σ.wi 83 9 (0 : Int32)).wi 83 5 (σ.i 83 8)).wl 83 10 (σ.l 93 ((σ.i 83 8).toNatClampNeg))).wi 83 6 ((Int64.toInt32 (σ.l 93 (((σ.i 83 8) + (1 : Int32)).toNatClampNeg))))).wi 83 7 ((Int64.toInt32 (σ.l 93 (((σ.i 83 8) + (2 : Int32)).toNatClampNeg))))).wi 83 8 ((Int64.toInt32 (σ.l 93 (((σ.i 83 8) + (3 : Int32)).toNatClampNeg))))) l1 (yN K fun τ7 => K (.inl none) τ7)))))) ∧ (¬ ((σ.i 83 8) + (4 : Int32)) ≤ 2048 → C_X4_finish_0 Z d (σ.wi 83 9 (0 : Int32)) 1 1 l1 (yN K fun τ9 => K (.inl none) τ9)))) : C_X4_failWith_0 Z (d + 1) σ l1 K := by
  unfold C_X4_failWith_0
  refine ab_fin.s2 (i := .aload_n 0) (k := 1) (pc' := 1) (lv' := [(0, .ref 83), (1, .long l1)]) (st' := [.ref 83]) (by decide +kernel) rfl rfl ?_
  refine ab_fin.s1i (i := .iconst 0) (k := 1) (pc' := 2) (n := 0) (by decide +kernel) rfl (by decide +kernel) rfl ?_
  refine ab_fin.q_pF (ix := 115) (ci := 5) (k := 9) (h1 := conc (σ.wi 83 9 (0 : Int32))) (pc' := 5) (by decide +kernel) rfl (c_pI (v := 0) (F.s t0_83) rfl) rfl rfl rfl ?_
  refine ab_fin.s2 (i := .aload_n 0) (k := 1) (pc' := 6) (lv' := [(0, .ref 83), (1, .long l1)]) (st' := [.ref 83]) (by decide +kernel) rfl rfl ?_
  refine ab_fin.q_rI (x := (σ.i 83 8)) (ix := 131) (ci := 5) (k := 8) (pc' := 9) (by decide +kernel) rfl (c_rI (F.s t0_83) rfl) rfl ?_
  refine ab_fin.br (c := (σ.i 83 8) < 0) (i := .ifCond .lt 15) (off := 15) (t := 24) (pc' := 12) (r := []) (by decide +kernel) rfl (by decide +kernel) rfl (fun q => ?_) (fun q => ?_)
  · replace w := w.1 q
    refine ab_fin.s2 (i := .aload_n 0) (k := 1) (pc' := 25) (lv' := [(0, .ref 83), (1, .long l1)]) (st' := [.ref 83]) (by decide +kernel) rfl rfl ?_
    refine ab_fin.s1i (i := .iconst 1) (k := 1) (pc' := 26) (n := 1) (by decide +kernel) rfl (by decide +kernel) rfl ?_
    refine ab_fin.s1i (i := .iconst 1) (k := 1) (pc' := 27) (n := 1) (by decide +kernel) rfl (by decide +kernel) rfl ?_
    refine ab_fin.s2 (i := .lload_n 1) (k := 1) (pc' := 28) (lv' := [(0, .ref 83), (1, .long l1)]) (st' := [.long l1, .int 1, .int 1, .ref 83]) (by decide +kernel) rfl rfl ?_
    refine ab_fin.q_yN (i := .invokevirtual 67) (k := 3) (y := 1029) (As := [.ref 83, .int 1, .int 1, .long l1]) (rest := []) (M' := (mX4_finish, [])) (lv2 := [(0, .ref 83), (1, .int 1), (2, .int 1), (3, .long l1)]) (pc' := 31) (X := K) (by decide +kernel) (ab_cv rfl rfl (conc_get (σ := (σ.wi 83 9 (0 : Int32))) (F.s t0_83)) ⟨(Nat.le_of_ble_eq_true rfl), (Nat.le_of_ble_eq_true rfl)⟩ rfl) rfl (Nat.le_of_ble_eq_true rfl) rfl rfl (hY_no fun E => rfl) w (fun τ1 F2 w => ?_)
    exact ab_fin.q_ret (i := .return_) (k := 1) (v := none) (by decide +kernel) rfl F2 w
  · replace w := w.2 q
    refine ab_fin.s2 (i := .aload_n 0) (k := 1) (pc' := 13) (lv' := [(0, .ref 83), (1, .long l1)]) (st' := [.ref 83]) (by decide +kernel) rfl rfl ?_
    refine ab_fin.q_rI (x := (σ.i 83 8)) (ix := 131) (ci := 5) (k := 8) (pc' := 16) (by decide +kernel) rfl (c_rI (F.s t0_83) rfl) rfl ?_
    refine ab_fin.s1i (i := .iconst 4) (k := 1) (pc' := 17) (n := 4) (by decide +kernel) rfl (by decide +kernel) rfl ?_
    refine ab_fin.s1 (i := .iadd) (k := 1) (pc' := 18) (st' := [.int ((σ.i 83 8) + (4 : Int32))]) (by decide +kernel) rfl rfl ?_
    refine ab_fin.s1i (i := .sipush 2048) (k := 3) (pc' := 21) (n := 2048) (by decide +kernel) rfl (by decide +kernel) rfl ?_
    refine ab_fin.br (c := ((σ.i 83 8) + (4 : Int32)) ≤ 2048) (i := .if_icmp .le 11) (off := 11) (t := 32) (pc' := 24) (r := []) (by decide +kernel) rfl (by decide +kernel) rfl (fun q => ?_) (fun q => ?_)
    · replace w := w.1 q
      refine ab_fin.s2 (i := .aload_n 0) (k := 1) (pc' := 33) (lv' := [(0, .ref 83), (1, .long l1)]) (st' := [.ref 83]) (by decide +kernel) rfl rfl ?_
      refine ab_fin.s2 (i := .aload_n 0) (k := 1) (pc' := 34) (lv' := [(0, .ref 83), (1, .long l1)]) (st' := [.ref 83, .ref 83]) (by decide +kernel) rfl rfl ?_
      refine ab_fin.q_rI (x := (σ.i 83 8)) (ix := 131) (ci := 5) (k := 8) (pc' := 37) (by decide +kernel) rfl (c_rI (F.s t0_83) rfl) rfl ?_
      refine ab_fin.q_pF (ix := 128) (ci := 5) (k := 5) (h1 := conc ((σ.wi 83 9 (0 : Int32)).wi 83 5 (σ.i 83 8))) (pc' := 40) (by decide +kernel) rfl (c_pI (v := (σ.i 83 8)) (F.s t0_83) rfl) rfl rfl rfl ?_
      refine ab_fin.s2 (i := .aload_n 0) (k := 1) (pc' := 41) (lv' := [(0, .ref 83), (1, .long l1)]) (st' := [.ref 83]) (by decide +kernel) rfl rfl ?_
      refine ab_fin.s2 (i := .aload_n 0) (k := 1) (pc' := 42) (lv' := [(0, .ref 83), (1, .long l1)]) (st' := [.ref 83, .ref 83]) (by decide +kernel) rfl rfl ?_
      refine ab_fin.q_rA (b := 93) (ix := 11) (ci := 5) (k := 2) (pc' := 45) (by decide +kernel) rfl (c_rA (F.s t0_83) rfl (rC_5_2 F t0_83)) rfl ?_
      refine ab_fin.s2 (i := .aload_n 0) (k := 1) (pc' := 46) (lv' := [(0, .ref 83), (1, .long l1)]) (st' := [.ref 83, .ref 93, .ref 83]) (by decide +kernel) rfl rfl ?_
      refine ab_fin.q_rI (x := (σ.i 83 8)) (ix := 128) (ci := 5) (k := 5) (pc' := 49) (by decide +kernel) rfl (c_rI (F.s t0_83) rfl) rfl ?_
      obtain ⟨e3, w⟩ := w
      refine ab_fin.q_eL (x := (σ.l 93 ((σ.i 83 8).toNatClampNeg))) (pc' := 50) (by decide +kernel) (c_eL' (F.s t0_93) e3 rfl) rfl ?_
      refine ab_fin.q_pF (ix := 83) (ci := 5) (k := 10) (h1 := conc (((σ.wi 83 9 (0 : Int32)).wi 83 5 (σ.i 83 8)).wl 83 10 (σ.l 93 ((σ.i 83 8).toNatClampNeg)))) (pc' := 53) (by decide +kernel) rfl (c_pL (v := (σ.l 93 ((σ.i 83 8).toNatClampNeg))) (F.s t0_83) rfl) rfl rfl rfl ?_
      refine ab_fin.s2 (i := .aload_n 0) (k := 1) (pc' := 54) (lv' := [(0, .ref 83), (1, .long l1)]) (st' := [.ref 83]) (by decide +kernel) rfl rfl ?_
      refine ab_fin.s2 (i := .aload_n 0) (k := 1) (pc' := 55) (lv' := [(0, .ref 83), (1, .long l1)]) (st' := [.ref 83, .ref 83]) (by decide +kernel) rfl rfl ?_
      refine ab_fin.q_rA (b := 93) (ix := 11) (ci := 5) (k := 2) (pc' := 58) (by decide +kernel) rfl (c_rA (F.s t0_83) rfl (rC_5_2 F t0_83)) rfl ?_
      refine ab_fin.s2 (i := .aload_n 0) (k := 1) (pc' := 59) (lv' := [(0, .ref 83), (1, .long l1)]) (st' := [.ref 83, .ref 93, .ref 83]) (by decide +kernel) rfl rfl ?_
      refine ab_fin.q_rI (x := (σ.i 83 8)) (ix := 128) (ci := 5) (k := 5) (pc' := 62) (by decide +kernel) rfl (c_rI (F.s t0_83) rfl) rfl ?_
      refine ab_fin.s1i (i := .iconst 1) (k := 1) (pc' := 63) (n := 1) (by decide +kernel) rfl (by decide +kernel) rfl ?_
      refine ab_fin.s1 (i := .iadd) (k := 1) (pc' := 64) (st' := [.int ((σ.i 83 8) + (1 : Int32)), .ref 93, .ref 83]) (by decide +kernel) rfl rfl ?_
      obtain ⟨e4, w⟩ := w
      refine ab_fin.q_eL (x := (σ.l 93 (((σ.i 83 8) + (1 : Int32)).toNatClampNeg))) (pc' := 65) (by decide +kernel) (c_eL' (F.s t0_93) e4 rfl) rfl ?_
      refine ab_fin.s1 (i := .l2i) (k := 1) (pc' := 66) (st' := [.int ((Int64.toInt32 (σ.l 93 (((σ.i 83 8) + (1 : Int32)).toNatClampNeg)))), .ref 83]) (by decide +kernel) rfl rfl ?_
      refine ab_fin.q_pF (ix := 80) (ci := 5) (k := 6) (h1 := conc ((((σ.wi 83 9 (0 : Int32)).wi 83 5 (σ.i 83 8)).wl 83 10 (σ.l 93 ((σ.i 83 8).toNatClampNeg))).wi 83 6 ((Int64.toInt32 (σ.l 93 (((σ.i 83 8) + (1 : Int32)).toNatClampNeg)))))) (pc' := 69) (by decide +kernel) rfl (c_pI (v := ((Int64.toInt32 (σ.l 93 (((σ.i 83 8) + (1 : Int32)).toNatClampNeg))))) (F.s t0_83) rfl) rfl rfl rfl ?_
      refine ab_fin.s2 (i := .aload_n 0) (k := 1) (pc' := 70) (lv' := [(0, .ref 83), (1, .long l1)]) (st' := [.ref 83]) (by decide +kernel) rfl rfl ?_
      refine ab_fin.s2 (i := .aload_n 0) (k := 1) (pc' := 71) (lv' := [(0, .ref 83), (1, .long l1)]) (st' := [.ref 83, .ref 83]) (by decide +kernel) rfl rfl ?_
      refine ab_fin.q_rA (b := 93) (ix := 11) (ci := 5) (k := 2) (pc' := 74) (by decide +kernel) rfl (c_rA (F.s t0_83) rfl (rC_5_2 F t0_83)) rfl ?_
      refine ab_fin.s2 (i := .aload_n 0) (k := 1) (pc' := 75) (lv' := [(0, .ref 83), (1, .long l1)]) (st' := [.ref 83, .ref 93, .ref 83]) (by decide +kernel) rfl rfl ?_
      refine ab_fin.q_rI (x := (σ.i 83 8)) (ix := 128) (ci := 5) (k := 5) (pc' := 78) (by decide +kernel) rfl (c_rI (F.s t0_83) rfl) rfl ?_
      refine ab_fin.s1i (i := .iconst 2) (k := 1) (pc' := 79) (n := 2) (by decide +kernel) rfl (by decide +kernel) rfl ?_
      refine ab_fin.s1 (i := .iadd) (k := 1) (pc' := 80) (st' := [.int ((σ.i 83 8) + (2 : Int32)), .ref 93, .ref 83]) (by decide +kernel) rfl rfl ?_
      obtain ⟨e5, w⟩ := w
      refine ab_fin.q_eL (x := (σ.l 93 (((σ.i 83 8) + (2 : Int32)).toNatClampNeg))) (pc' := 81) (by decide +kernel) (c_eL' (F.s t0_93) e5 rfl) rfl ?_
      refine ab_fin.s1 (i := .l2i) (k := 1) (pc' := 82) (st' := [.int ((Int64.toInt32 (σ.l 93 (((σ.i 83 8) + (2 : Int32)).toNatClampNeg)))), .ref 83]) (by decide +kernel) rfl rfl ?_
      refine ab_fin.q_pF (ix := 53) (ci := 5) (k := 7) (h1 := conc (((((σ.wi 83 9 (0 : Int32)).wi 83 5 (σ.i 83 8)).wl 83 10 (σ.l 93 ((σ.i 83 8).toNatClampNeg))).wi 83 6 ((Int64.toInt32 (σ.l 93 (((σ.i 83 8) + (1 : Int32)).toNatClampNeg))))).wi 83 7 ((Int64.toInt32 (σ.l 93 (((σ.i 83 8) + (2 : Int32)).toNatClampNeg)))))) (pc' := 85) (by decide +kernel) rfl (c_pI (v := ((Int64.toInt32 (σ.l 93 (((σ.i 83 8) + (2 : Int32)).toNatClampNeg))))) (F.s t0_83) rfl) rfl rfl rfl ?_
      refine ab_fin.s2 (i := .aload_n 0) (k := 1) (pc' := 86) (lv' := [(0, .ref 83), (1, .long l1)]) (st' := [.ref 83]) (by decide +kernel) rfl rfl ?_
      refine ab_fin.s2 (i := .aload_n 0) (k := 1) (pc' := 87) (lv' := [(0, .ref 83), (1, .long l1)]) (st' := [.ref 83, .ref 83]) (by decide +kernel) rfl rfl ?_
      refine ab_fin.q_rA (b := 93) (ix := 11) (ci := 5) (k := 2) (pc' := 90) (by decide +kernel) rfl (c_rA (F.s t0_83) rfl (rC_5_2 F t0_83)) rfl ?_
      refine ab_fin.s2 (i := .aload_n 0) (k := 1) (pc' := 91) (lv' := [(0, .ref 83), (1, .long l1)]) (st' := [.ref 83, .ref 93, .ref 83]) (by decide +kernel) rfl rfl ?_
      refine ab_fin.q_rI (x := (σ.i 83 8)) (ix := 128) (ci := 5) (k := 5) (pc' := 94) (by decide +kernel) rfl (c_rI (F.s t0_83) rfl) rfl ?_
      refine ab_fin.s1i (i := .iconst 3) (k := 1) (pc' := 95) (n := 3) (by decide +kernel) rfl (by decide +kernel) rfl ?_
      refine ab_fin.s1 (i := .iadd) (k := 1) (pc' := 96) (st' := [.int ((σ.i 83 8) + (3 : Int32)), .ref 93, .ref 83]) (by decide +kernel) rfl rfl ?_
      obtain ⟨e6, w⟩ := w
      refine ab_fin.q_eL (x := (σ.l 93 (((σ.i 83 8) + (3 : Int32)).toNatClampNeg))) (pc' := 97) (by decide +kernel) (c_eL' (F.s t0_93) e6 rfl) rfl ?_
      refine ab_fin.s1 (i := .l2i) (k := 1) (pc' := 98) (st' := [.int ((Int64.toInt32 (σ.l 93 (((σ.i 83 8) + (3 : Int32)).toNatClampNeg)))), .ref 83]) (by decide +kernel) rfl rfl ?_
      refine ab_fin.q_pF (ix := 131) (ci := 5) (k := 8) (h1 := conc ((((((σ.wi 83 9 (0 : Int32)).wi 83 5 (σ.i 83 8)).wl 83 10 (σ.l 93 ((σ.i 83 8).toNatClampNeg))).wi 83 6 ((Int64.toInt32 (σ.l 93 (((σ.i 83 8) + (1 : Int32)).toNatClampNeg))))).wi 83 7 ((Int64.toInt32 (σ.l 93 (((σ.i 83 8) + (2 : Int32)).toNatClampNeg))))).wi 83 8 ((Int64.toInt32 (σ.l 93 (((σ.i 83 8) + (3 : Int32)).toNatClampNeg)))))) (pc' := 101) (by decide +kernel) rfl (c_pI (v := ((Int64.toInt32 (σ.l 93 (((σ.i 83 8) + (3 : Int32)).toNatClampNeg))))) (F.s t0_83) rfl) rfl rfl rfl ?_
      refine ab_fin.s2 (i := .aload_n 0) (k := 1) (pc' := 102) (lv' := [(0, .ref 83), (1, .long l1)]) (st' := [.ref 83]) (by decide +kernel) rfl rfl ?_
      refine ab_fin.s2 (i := .lload_n 1) (k := 1) (pc' := 103) (lv' := [(0, .ref 83), (1, .long l1)]) (st' := [.long l1, .ref 83]) (by decide +kernel) rfl rfl ?_
      refine ab_fin.q_yN (i := .invokevirtual 147) (k := 3) (y := 1030) (As := [.ref 83, .long l1]) (rest := []) (M' := (mX4_push, [])) (lv2 := [(0, .ref 83), (1, .long l1)]) (pc' := 106) (X := K) (by decide +kernel) (ab_cv rfl rfl (conc_get (σ := ((((((σ.wi 83 9 (0 : Int32)).wi 83 5 (σ.i 83 8)).wl 83 10 (σ.l 93 ((σ.i 83 8).toNatClampNeg))).wi 83 6 ((Int64.toInt32 (σ.l 93 (((σ.i 83 8) + (1 : Int32)).toNatClampNeg))))).wi 83 7 ((Int64.toInt32 (σ.l 93 (((σ.i 83 8) + (2 : Int32)).toNatClampNeg))))).wi 83 8 ((Int64.toInt32 (σ.l 93 (((σ.i 83 8) + (3 : Int32)).toNatClampNeg)))))) (F.s t0_83)) ⟨(Nat.le_of_ble_eq_true rfl), (Nat.le_of_ble_eq_true rfl)⟩ rfl) rfl (Nat.le_of_ble_eq_true rfl) rfl rfl (hY_no fun E => rfl) w (fun τ7 F8 w => ?_)
      exact ab_fin.q_ret (i := .return_) (k := 1) (v := none) (by decide +kernel) rfl F8 w
    · replace w := w.2 q
      refine ab_fin.s2 (i := .aload_n 0) (k := 1) (pc' := 25) (lv' := [(0, .ref 83), (1, .long l1)]) (st' := [.ref 83]) (by decide +kernel) rfl rfl ?_
      refine ab_fin.s1i (i := .iconst 1) (k := 1) (pc' := 26) (n := 1) (by decide +kernel) rfl (by decide +kernel) rfl ?_
      refine ab_fin.s1i (i := .iconst 1) (k := 1) (pc' := 27) (n := 1) (by decide +kernel) rfl (by decide +kernel) rfl ?_
      refine ab_fin.s2 (i := .lload_n 1) (k := 1) (pc' := 28) (lv' := [(0, .ref 83), (1, .long l1)]) (st' := [.long l1, .int 1, .int 1, .ref 83]) (by decide +kernel) rfl rfl ?_
      refine ab_fin.q_yN (i := .invokevirtual 67) (k := 3) (y := 1029) (As := [.ref 83, .int 1, .int 1, .long l1]) (rest := []) (M' := (mX4_finish, [])) (lv2 := [(0, .ref 83), (1, .int 1), (2, .int 1), (3, .long l1)]) (pc' := 31) (X := K) (by decide +kernel) (ab_cv rfl rfl (conc_get (σ := (σ.wi 83 9 (0 : Int32))) (F.s t0_83)) ⟨(Nat.le_of_ble_eq_true rfl), (Nat.le_of_ble_eq_true rfl)⟩ rfl) rfl (Nat.le_of_ble_eq_true rfl) rfl rfl (hY_no fun E => rfl) w (fun τ9 F10 w => ?_)
      exact ab_fin.q_ret (i := .return_) (k := 1) (v := none) (by decide +kernel) rfl F10 w
theorem T_X4_inFrame_0 {Z : zT} {d : Nat} {σ : Sg} {l1 : Int32} {l2 : Int32} {K : kS} (F : FX ΦC σ.sh σ.r) (w : ib ((l1 * (32 : Int32)) + l2) 832 ∧ (K (.inl (some (.int ((Int64.toInt32 (σ.l 94 (((l1 * (32 : Int32)) + l2).toNatClampNeg))))))) σ)) : C_X4_inFrame_0 Z (d + 1) σ l1 l2 K := by
  unfold C_X4_inFrame_0
  refine ab_fin.s2 (i := .aload_n 0) (k := 1) (pc' := 1) (lv' := [(0, .ref 83), (1, .int l1), (2, .int l2)]) (st' := [.ref 83]) (by decide +kernel) rfl rfl ?_
  refine ab_fin.q_rA (b := 94) (ix := 15) (ci := 5) (k := 3) (pc' := 4) (by decide +kernel) rfl (c_rA (F.s t0_83) rfl (rC_5_3 F t0_83)) rfl ?_
  refine ab_fin.s2 (i := .iload_n 1) (k := 1) (pc' := 5) (lv' := [(0, .ref 83), (1, .int l1), (2, .int l2)]) (st' := [.int l1, .ref 94]) (by decide +kernel) rfl rfl ?_
  refine ab_fin.s1i (i := .bipush 32) (k := 2) (pc' := 7) (n := 32) (by decide +kernel) rfl (by decide +kernel) rfl ?_
  refine ab_fin.s1 (i := .imul) (k := 1) (pc' := 8) (st' := [.int (l1 * (32 : Int32)), .ref 94]) (by decide +kernel) rfl rfl ?_
  refine ab_fin.s2 (i := .iload_n 2) (k := 1) (pc' := 9) (lv' := [(0, .ref 83), (1, .int l1), (2, .int l2)]) (st' := [.int l2, .int (l1 * (32 : Int32)), .ref 94]) (by decide +kernel) rfl rfl ?_
  refine ab_fin.s1 (i := .iadd) (k := 1) (pc' := 10) (st' := [.int ((l1 * (32 : Int32)) + l2), .ref 94]) (by decide +kernel) rfl rfl ?_
  obtain ⟨e1, w⟩ := w
  refine ab_fin.q_eL (x := (σ.l 94 (((l1 * (32 : Int32)) + l2).toNatClampNeg))) (pc' := 11) (by decide +kernel) (c_eL' (F.s t0_94) e1 rfl) rfl ?_
  refine ab_fin.s1 (i := .l2i) (k := 1) (pc' := 12) (st' := [.int ((Int64.toInt32 (σ.l 94 (((l1 * (32 : Int32)) + l2).toNatClampNeg))))]) (by decide +kernel) rfl rfl ?_
  exact ab_fin.q_ret (i := .ireturn) (k := 1) (v := some (.int ((Int64.toInt32 (σ.l 94 (((l1 * (32 : Int32)) + l2).toNatClampNeg)))))) (by decide +kernel) rfl F w
theorem T_X4_beginCall_0 {Z : zT} {d : Nat} {σ : Sg} {l1 : Int32} {K : kS} (F : FX ΦC σ.sh σ.r) (w : (¬ l1 = 0 → C_X0_rowSize_0 Z d σ ((σ.i 83 6) + (1 : Int32)) 1 (yI K fun v3 τ1 => (v3 ≤ 0 → C_X0_endsWithSeveral_0 Z d τ1 ((σ.i 83 6) + (1 : Int32)) 1 (yI K fun v6 τ4 => (v6 = 0 → C_X4_beginInside_0 Z d τ4 ((σ.i 83 6) + (1 : Int32)) (τ4.i 83 7) (yN K fun τ7 => K (.inl none) τ7)) ∧ (¬ v6 = 0 → K (.inl none) (τ4.wi 83 9 (2 : Int32))))) ∧ (¬ v3 ≤ 0 → C_X4_beginMethod_0 Z d τ1 ((σ.i 83 6) + (1 : Int32)) 1 0 (τ1.i 83 7) 0 (yN K fun τ9 => K (.inl none) τ9)))) ∧ (l1 = 0 → K (.inl none) (σ.wi 83 9 (1 : Int32)))) : C_X4_beginCall_0 Z (d + 1) σ l1 K := by
  unfold C_X4_beginCall_0
  refine ab_fin.s2 (i := .aload_n 0) (k := 1) (pc' := 1) (lv' := [(0, .ref 83), (1, .int l1)]) (st' := [.ref 83]) (by decide +kernel) rfl rfl ?_
  refine ab_fin.q_rI (x := (σ.i 83 6)) (ix := 80) (ci := 5) (k := 6) (pc' := 4) (by decide +kernel) rfl (c_rI (F.s t0_83) rfl) rfl ?_
  refine ab_fin.s1i (i := .iconst 1) (k := 1) (pc' := 5) (n := 1) (by decide +kernel) rfl (by decide +kernel) rfl ?_
  refine ab_fin.s1 (i := .iadd) (k := 1) (pc' := 6) (st' := [.int ((σ.i 83 6) + (1 : Int32))]) (by decide +kernel) rfl rfl ?_
  refine ab_fin.s2 (i := .istore_n 2) (k := 1) (pc' := 7) (lv' := [(2, .int ((σ.i 83 6) + (1 : Int32))), (0, .ref 83), (1, .int l1)]) (st' := []) (by decide +kernel) rfl rfl ?_
  refine ab_fin.s2 (i := .iload_n 1) (k := 1) (pc' := 8) (lv' := [(2, .int ((σ.i 83 6) + (1 : Int32))), (0, .ref 83), (1, .int l1)]) (st' := [.int l1]) (by decide +kernel) rfl rfl ?_
  refine ab_fin.br (c := ¬ l1 = 0) (i := .ifCond .ne 11) (off := 11) (t := 19) (pc' := 11) (r := []) (by decide +kernel) rfl (by decide +kernel) rfl (fun q => ?_) (fun q => ?_)
  · replace w := w.1 q
    refine ab_fin.s2 (i := .aload_n 0) (k := 1) (pc' := 20) (lv' := [(2, .int ((σ.i 83 6) + (1 : Int32))), (0, .ref 83), (1, .int l1)]) (st' := [.ref 83]) (by decide +kernel) rfl rfl ?_
    refine ab_fin.q_rA (b := 84) (ix := 36) (ci := 5) (k := 1) (pc' := 23) (by decide +kernel) rfl (c_rA (F.s t0_83) rfl (rC_5_1 F t0_83)) rfl ?_
    refine ab_fin.s2 (i := .iload_n 2) (k := 1) (pc' := 24) (lv' := [(2, .int ((σ.i 83 6) + (1 : Int32))), (0, .ref 83), (1, .int l1)]) (st' := [.int ((σ.i 83 6) + (1 : Int32)), .ref 84]) (by decide +kernel) rfl rfl ?_
    refine ab_fin.s1i (i := .iconst 1) (k := 1) (pc' := 25) (n := 1) (by decide +kernel) rfl (by decide +kernel) rfl ?_
    refine ab_fin.q_yI (i := .invokevirtual 186) (k := 3) (y := 1) (As := [.ref 84, .int ((σ.i 83 6) + (1 : Int32)), .int 1]) (rest := []) (M' := (mX0_rowSize, [])) (lv2 := [(0, .ref 84), (1, .int ((σ.i 83 6) + (1 : Int32))), (2, .int 1)]) (pc' := 28) (X := K) (by decide +kernel) (ab_cv rfl rfl (conc_get (σ := σ) (F.s t0_84)) ⟨(Nat.le_of_ble_eq_true rfl), (Nat.le_of_ble_eq_true rfl)⟩ rfl) rfl (Nat.le_of_ble_eq_true rfl) rfl rfl (hY_no fun E => rfl) w (fun v3 τ1 F2 w => ?_)
    refine ab_fin.br (c := v3 ≤ 0) (i := .ifCond .le 18) (off := 18) (t := 46) (pc' := 31) (r := []) (by decide +kernel) rfl (by decide +kernel) rfl (fun q => ?_) (fun q => ?_)
    · replace w := w.1 q
      refine ab_fin.s2 (i := .aload_n 0) (k := 1) (pc' := 47) (lv' := [(2, .int ((σ.i 83 6) + (1 : Int32))), (0, .ref 83), (1, .int l1)]) (st' := [.ref 83]) (by decide +kernel) rfl rfl ?_
      refine ab_fin.q_rA (b := 84) (ix := 36) (ci := 5) (k := 1) (pc' := 50) (by decide +kernel) rfl (c_rA (F2.s t0_83) rfl (rC_5_1 F2 t0_83)) rfl ?_
      refine ab_fin.s2 (i := .iload_n 2) (k := 1) (pc' := 51) (lv' := [(2, .int ((σ.i 83 6) + (1 : Int32))), (0, .ref 83), (1, .int l1)]) (st' := [.int ((σ.i 83 6) + (1 : Int32)), .ref 84]) (by decide +kernel) rfl rfl ?_
      refine ab_fin.s1i (i := .iconst 1) (k := 1) (pc' := 52) (n := 1) (by decide +kernel) rfl (by decide +kernel) rfl ?_
      refine ab_fin.q_yI (i := .invokevirtual 194) (k := 3) (y := 2) (As := [.ref 84, .int ((σ.i 83 6) + (1 : Int32)), .int 1]) (rest := []) (M' := (mX0_endsWithSeveral, [])) (lv2 := [(0, .ref 84), (1, .int ((σ.i 83 6) + (1 : Int32))), (2, .int 1)]) (pc' := 55) (X := K) (by decide +kernel) (ab_cv rfl rfl (conc_get (σ := τ1) (F2.s t0_84)) ⟨(Nat.le_of_ble_eq_true rfl), (Nat.le_of_ble_eq_true rfl)⟩ rfl) rfl (Nat.le_of_ble_eq_true rfl) rfl rfl (hY_no fun E => rfl) w (fun v6 τ4 F5 w => ?_)
      refine ab_fin.br (c := v6 = 0) (i := .ifCond .eq 11) (off := 11) (t := 66) (pc' := 58) (r := []) (by decide +kernel) rfl (by decide +kernel) rfl (fun q => ?_) (fun q => ?_)
      · replace w := w.1 q
        refine ab_fin.s2 (i := .aload_n 0) (k := 1) (pc' := 67) (lv' := [(2, .int ((σ.i 83 6) + (1 : Int32))), (0, .ref 83), (1, .int l1)]) (st' := [.ref 83]) (by decide +kernel) rfl rfl ?_
        refine ab_fin.s2 (i := .iload_n 2) (k := 1) (pc' := 68) (lv' := [(2, .int ((σ.i 83 6) + (1 : Int32))), (0, .ref 83), (1, .int l1)]) (st' := [.int ((σ.i 83 6) + (1 : Int32)), .ref 83]) (by decide +kernel) rfl rfl ?_
        refine ab_fin.s2 (i := .aload_n 0) (k := 1) (pc' := 69) (lv' := [(2, .int ((σ.i 83 6) + (1 : Int32))), (0, .ref 83), (1, .int l1)]) (st' := [.ref 83, .int ((σ.i 83 6) + (1 : Int32)), .ref 83]) (by decide +kernel) rfl rfl ?_
        refine ab_fin.q_rI (x := (τ4.i 83 7)) (ix := 53) (ci := 5) (k := 7) (pc' := 72) (by decide +kernel) rfl (c_rI (F5.s t0_83) rfl) rfl ?_
        refine ab_fin.q_yN (i := .invokevirtual 197) (k := 3) (y := 1045) (As := [.ref 83, .int ((σ.i 83 6) + (1 : Int32)), .int (τ4.i 83 7)]) (rest := []) (M' := (mX4_beginInside, [])) (lv2 := [(0, .ref 83), (1, .int ((σ.i 83 6) + (1 : Int32))), (2, .int (τ4.i 83 7))]) (pc' := 75) (X := K) (by decide +kernel) (ab_cv rfl rfl (conc_get (σ := τ4) (F5.s t0_83)) ⟨(Nat.le_of_ble_eq_true rfl), (Nat.le_of_ble_eq_true rfl)⟩ rfl) rfl (Nat.le_of_ble_eq_true rfl) rfl rfl (hY_no fun E => rfl) w (fun τ7 F8 w => ?_)
        exact ab_fin.q_ret (i := .return_) (k := 1) (v := none) (by decide +kernel) rfl F8 w
      · replace w := w.2 q
        refine ab_fin.s2 (i := .aload_n 0) (k := 1) (pc' := 59) (lv' := [(2, .int ((σ.i 83 6) + (1 : Int32))), (0, .ref 83), (1, .int l1)]) (st' := [.ref 83]) (by decide +kernel) rfl rfl ?_
        refine ab_fin.s1i (i := .iconst 2) (k := 1) (pc' := 60) (n := 2) (by decide +kernel) rfl (by decide +kernel) rfl ?_
        refine ab_fin.q_pF (ix := 115) (ci := 5) (k := 9) (h1 := conc (τ4.wi 83 9 (2 : Int32))) (pc' := 63) (by decide +kernel) rfl (c_pI (v := 2) (F5.s t0_83) rfl) rfl rfl rfl ?_
        refine ab_fin.s3 (i := .goto 12) (k := 3) (t := 75) (st' := []) (by decide +kernel) (ab_gto (by decide +kernel)) ?_
        exact ab_fin.q_ret (i := .return_) (k := 1) (v := none) (by decide +kernel) rfl F5 w
    · replace w := w.2 q
      refine ab_fin.s2 (i := .aload_n 0) (k := 1) (pc' := 32) (lv' := [(2, .int ((σ.i 83 6) + (1 : Int32))), (0, .ref 83), (1, .int l1)]) (st' := [.ref 83]) (by decide +kernel) rfl rfl ?_
      refine ab_fin.s2 (i := .iload_n 2) (k := 1) (pc' := 33) (lv' := [(2, .int ((σ.i 83 6) + (1 : Int32))), (0, .ref 83), (1, .int l1)]) (st' := [.int ((σ.i 83 6) + (1 : Int32)), .ref 83]) (by decide +kernel) rfl rfl ?_
      refine ab_fin.s1i (i := .iconst 1) (k := 1) (pc' := 34) (n := 1) (by decide +kernel) rfl (by decide +kernel) rfl ?_
      refine ab_fin.s1i (i := .iconst 0) (k := 1) (pc' := 35) (n := 0) (by decide +kernel) rfl (by decide +kernel) rfl ?_
      refine ab_fin.s2 (i := .aload_n 0) (k := 1) (pc' := 36) (lv' := [(2, .int ((σ.i 83 6) + (1 : Int32))), (0, .ref 83), (1, .int l1)]) (st' := [.ref 83, .int 0, .int 1, .int ((σ.i 83 6) + (1 : Int32)), .ref 83]) (by decide +kernel) rfl rfl ?_
      refine ab_fin.q_rI (x := (τ1.i 83 7)) (ix := 53) (ci := 5) (k := 7) (pc' := 39) (by decide +kernel) rfl (c_rI (F2.s t0_83) rfl) rfl ?_
      refine ab_fin.s1i (i := .iconst 0) (k := 1) (pc' := 40) (n := 0) (by decide +kernel) rfl (by decide +kernel) rfl ?_
      refine ab_fin.q_yN (i := .invokevirtual 190) (k := 3) (y := 1043) (As := [.ref 83, .int ((σ.i 83 6) + (1 : Int32)), .int 1, .int 0, .int (τ1.i 83 7), .int 0]) (rest := []) (M' := (mX4_beginMethod, [])) (lv2 := [(0, .ref 83), (1, .int ((σ.i 83 6) + (1 : Int32))), (2, .int 1), (3, .int 0), (4, .int (τ1.i 83 7)), (5, .int 0)]) (pc' := 43) (X := K) (by decide +kernel) (ab_cv rfl rfl (conc_get (σ := τ1) (F2.s t0_83)) ⟨(Nat.le_of_ble_eq_true rfl), (Nat.le_of_ble_eq_true rfl)⟩ rfl) rfl (Nat.le_of_ble_eq_true rfl) rfl rfl (hY_no fun E => rfl) w (fun τ9 F10 w => ?_)
      refine ab_fin.s3 (i := .goto 32) (k := 3) (t := 75) (st' := []) (by decide +kernel) (ab_gto (by decide +kernel)) ?_
      exact ab_fin.q_ret (i := .return_) (k := 1) (v := none) (by decide +kernel) rfl F10 w
  · replace w := w.2 (Decidable.of_not_not q)
    refine ab_fin.s2 (i := .aload_n 0) (k := 1) (pc' := 12) (lv' := [(2, .int ((σ.i 83 6) + (1 : Int32))), (0, .ref 83), (1, .int l1)]) (st' := [.ref 83]) (by decide +kernel) rfl rfl ?_
    refine ab_fin.s1i (i := .iconst 1) (k := 1) (pc' := 13) (n := 1) (by decide +kernel) rfl (by decide +kernel) rfl ?_
    refine ab_fin.q_pF (ix := 115) (ci := 5) (k := 9) (h1 := conc (σ.wi 83 9 (1 : Int32))) (pc' := 16) (by decide +kernel) rfl (c_pI (v := 1) (F.s t0_83) rfl) rfl rfl rfl ?_
    refine ab_fin.s3 (i := .goto 59) (k := 3) (t := 75) (st' := []) (by decide +kernel) (ab_gto (by decide +kernel)) ?_
    exact ab_fin.q_ret (i := .return_) (k := 1) (v := none) (by decide +kernel) rfl F w
theorem T_X4_beginMethod_0 {Z : zT} {d : Nat} {σ : Sg} {l1 : Int32} {l2 : Int32} {l3 : Int32} {l4 : Int32} {l5 : Int32} {K : kS} (F : FX ΦC σ.sh σ.r) (w : ((σ.i 83 6) < 24 → C_X0_inRow_0 Z d σ l1 l2 l3 (yI K fun v3 τ1 => ib ((((τ1.i 83 6) + (1 : Int32)) * (32 : Int32)) + (0 : Int32)) 832 ∧ (ib ((((τ1.i 83 6) + (1 : Int32)) * (32 : Int32)) + (1 : Int32)) 832 ∧ (ib ((((τ1.i 83 6) + (1 : Int32)) * (32 : Int32)) + (2 : Int32)) 832 ∧ (ib ((((τ1.i 83 6) + (1 : Int32)) * (32 : Int32)) + (3 : Int32)) 832 ∧ ((l5 = 0 → C_X4_beginMethod_110 Z (d + 1) (((((τ1.wi 83 6 ((τ1.i 83 6) + (1 : Int32))).wl 94 (((((τ1.i 83 6) + (1 : Int32)) * (32 : Int32)) + (0 : Int32)).toNatClampNeg) ((Int32.toInt64 l4))).wl 94 (((((τ1.i 83 6) + (1 : Int32)) * (32 : Int32)) + (1 : Int32)).toNatClampNeg) ((Int32.toInt64 v3))).wl 94 (((((τ1.i 83 6) + (1 : Int32)) * (32 : Int32)) + (2 : Int32)).toNatClampNeg) ((Int32.toInt64 l1))).wl 94 (((((τ1.i 83 6) + (1 : Int32)) * (32 : Int32)) + (3 : Int32)).toNatClampNeg) ((Int32.toInt64 l3))) v3 (((τ1.i 83 6) + (1 : Int32)) * (32 : Int32)) ((((τ1.i 83 6) + (1 : Int32)) * (32 : Int32)) + (4 : Int32)) 0 K) ∧ (¬ l5 = 0 → C_X4_beginMethod_110 Z (d + 1) (((((τ1.wi 83 6 ((τ1.i 83 6) + (1 : Int32))).wl 94 (((((τ1.i 83 6) + (1 : Int32)) * (32 : Int32)) + (0 : Int32)).toNatClampNeg) ((Int32.toInt64 l4))).wl 94 (((((τ1.i 83 6) + (1 : Int32)) * (32 : Int32)) + (1 : Int32)).toNatClampNeg) ((Int32.toInt64 v3))).wl 94 (((((τ1.i 83 6) + (1 : Int32)) * (32 : Int32)) + (2 : Int32)).toNatClampNeg) ((Int32.toInt64 l1))).wl 94 (((((τ1.i 83 6) + (1 : Int32)) * (32 : Int32)) + (3 : Int32)).toNatClampNeg) ((Int32.toInt64 l3))) v3 (((τ1.i 83 6) + (1 : Int32)) * (32 : Int32)) ((((τ1.i 83 6) + (1 : Int32)) * (32 : Int32)) + (4 : Int32)) 1 K))))))) ∧ (¬ (σ.i 83 6) < 24 → K (.inl none) (σ.wi 83 9 (4 : Int32)))) : C_X4_beginMethod_0 Z (d + 1) σ l1 l2 l3 l4 l5 K := by
  unfold C_X4_beginMethod_0
  refine ab_fin.s2 (i := .aload_n 0) (k := 1) (pc' := 1) (lv' := [(0, .ref 83), (1, .int l1), (2, .int l2), (3, .int l3), (4, .int l4), (5, .int l5)]) (st' := [.ref 83]) (by decide +kernel) rfl rfl ?_
  refine ab_fin.q_rI (x := (σ.i 83 6)) (ix := 80) (ci := 5) (k := 6) (pc' := 4) (by decide +kernel) rfl (c_rI (F.s t0_83) rfl) rfl ?_
  refine ab_fin.s1i (i := .bipush 24) (k := 2) (pc' := 6) (n := 24) (by decide +kernel) rfl (by decide +kernel) rfl ?_
  refine ab_fin.br (c := (σ.i 83 6) < 24) (i := .if_icmp .lt 9) (off := 9) (t := 15) (pc' := 9) (r := []) (by decide +kernel) rfl (by decide +kernel) rfl (fun q => ?_) (fun q => ?_)
  · replace w := w.1 q
    refine ab_fin.s2 (i := .aload_n 0) (k := 1) (pc' := 16) (lv' := [(0, .ref 83), (1, .int l1), (2, .int l2), (3, .int l3), (4, .int l4), (5, .int l5)]) (st' := [.ref 83]) (by decide +kernel) rfl rfl ?_
    refine ab_fin.q_rA (b := 84) (ix := 36) (ci := 5) (k := 1) (pc' := 19) (by decide +kernel) rfl (c_rA (F.s t0_83) rfl (rC_5_1 F t0_83)) rfl ?_
    refine ab_fin.s2 (i := .iload_n 1) (k := 1) (pc' := 20) (lv' := [(0, .ref 83), (1, .int l1), (2, .int l2), (3, .int l3), (4, .int l4), (5, .int l5)]) (st' := [.int l1, .ref 84]) (by decide +kernel) rfl rfl ?_
    refine ab_fin.s2 (i := .iload_n 2) (k := 1) (pc' := 21) (lv' := [(0, .ref 83), (1, .int l1), (2, .int l2), (3, .int l3), (4, .int l4), (5, .int l5)]) (st' := [.int l2, .int l1, .ref 84]) (by decide +kernel) rfl rfl ?_
    refine ab_fin.s2 (i := .iload_n 3) (k := 1) (pc' := 22) (lv' := [(0, .ref 83), (1, .int l1), (2, .int l2), (3, .int l3), (4, .int l4), (5, .int l5)]) (st' := [.int l3, .int l2, .int l1, .ref 84]) (by decide +kernel) rfl rfl ?_
    refine ab_fin.q_yI (i := .invokevirtual 200) (k := 3) (y := 3) (As := [.ref 84, .int l1, .int l2, .int l3]) (rest := []) (M' := (mX0_inRow, [])) (lv2 := [(0, .ref 84), (1, .int l1), (2, .int l2), (3, .int l3)]) (pc' := 25) (X := K) (by decide +kernel) (ab_cv rfl rfl (conc_get (σ := σ) (F.s t0_84)) ⟨(Nat.le_of_ble_eq_true rfl), (Nat.le_of_ble_eq_true rfl)⟩ rfl) rfl (Nat.le_of_ble_eq_true rfl) rfl rfl (hY_no fun E => rfl) w (fun v3 τ1 F2 w => ?_)
    refine ab_fin.s2 (i := .istore 6) (k := 2) (pc' := 27) (lv' := [(6, .int v3), (0, .ref 83), (1, .int l1), (2, .int l2), (3, .int l3), (4, .int l4), (5, .int l5)]) (st' := []) (by decide +kernel) rfl rfl ?_
    refine ab_fin.s2 (i := .aload_n 0) (k := 1) (pc' := 28) (lv' := [(6, .int v3), (0, .ref 83), (1, .int l1), (2, .int l2), (3, .int l3), (4, .int l4), (5, .int l5)]) (st' := [.ref 83]) (by decide +kernel) rfl rfl ?_
    refine ab_fin.s1 (i := .dup) (k := 1) (pc' := 29) (st' := [.ref 83, .ref 83]) (by decide +kernel) rfl rfl ?_
    refine ab_fin.q_rI (x := (τ1.i 83 6)) (ix := 80) (ci := 5) (k := 6) (pc' := 32) (by decide +kernel) rfl (c_rI (F2.s t0_83) rfl) rfl ?_
    refine ab_fin.s1i (i := .iconst 1) (k := 1) (pc' := 33) (n := 1) (by decide +kernel) rfl (by decide +kernel) rfl ?_
    refine ab_fin.s1 (i := .iadd) (k := 1) (pc' := 34) (st' := [.int ((τ1.i 83 6) + (1 : Int32)), .ref 83]) (by decide +kernel) rfl rfl ?_
    refine ab_fin.q_pF (ix := 80) (ci := 5) (k := 6) (h1 := conc (τ1.wi 83 6 ((τ1.i 83 6) + (1 : Int32)))) (pc' := 37) (by decide +kernel) rfl (c_pI (v := ((τ1.i 83 6) + (1 : Int32))) (F2.s t0_83) rfl) rfl rfl rfl ?_
    refine ab_fin.s2 (i := .aload_n 0) (k := 1) (pc' := 38) (lv' := [(6, .int v3), (0, .ref 83), (1, .int l1), (2, .int l2), (3, .int l3), (4, .int l4), (5, .int l5)]) (st' := [.ref 83]) (by decide +kernel) rfl rfl ?_
    refine ab_fin.q_rI (x := ((τ1.i 83 6) + (1 : Int32))) (ix := 80) (ci := 5) (k := 6) (pc' := 41) (by decide +kernel) rfl (c_rI (F2.s t0_83) rfl) rfl ?_
    refine ab_fin.s1i (i := .bipush 32) (k := 2) (pc' := 43) (n := 32) (by decide +kernel) rfl (by decide +kernel) rfl ?_
    refine ab_fin.s1 (i := .imul) (k := 1) (pc' := 44) (st' := [.int (((τ1.i 83 6) + (1 : Int32)) * (32 : Int32))]) (by decide +kernel) rfl rfl ?_
    refine ab_fin.s2 (i := .istore 7) (k := 2) (pc' := 46) (lv' := [(7, .int (((τ1.i 83 6) + (1 : Int32)) * (32 : Int32))), (6, .int v3), (0, .ref 83), (1, .int l1), (2, .int l2), (3, .int l3), (4, .int l4), (5, .int l5)]) (st' := []) (by decide +kernel) rfl rfl ?_
    refine ab_fin.s2 (i := .aload_n 0) (k := 1) (pc' := 47) (lv' := [(7, .int (((τ1.i 83 6) + (1 : Int32)) * (32 : Int32))), (6, .int v3), (0, .ref 83), (1, .int l1), (2, .int l2), (3, .int l3), (4, .int l4), (5, .int l5)]) (st' := [.ref 83]) (by decide +kernel) rfl rfl ?_
    refine ab_fin.q_rA (b := 94) (ix := 15) (ci := 5) (k := 3) (pc' := 50) (by decide +kernel) rfl (c_rA (F2.s t0_83) rfl (rC_5_3 F2 t0_83)) rfl ?_
    refine ab_fin.s2 (i := .iload 7) (k := 2) (pc' := 52) (lv' := [(7, .int (((τ1.i 83 6) + (1 : Int32)) * (32 : Int32))), (6, .int v3), (0, .ref 83), (1, .int l1), (2, .int l2), (3, .int l3), (4, .int l4), (5, .int l5)]) (st' := [.int (((τ1.i 83 6) + (1 : Int32)) * (32 : Int32)), .ref 94]) (by decide +kernel) rfl rfl ?_
    refine ab_fin.s1i (i := .iconst 0) (k := 1) (pc' := 53) (n := 0) (by decide +kernel) rfl (by decide +kernel) rfl ?_
    refine ab_fin.s1 (i := .iadd) (k := 1) (pc' := 54) (st' := [.int ((((τ1.i 83 6) + (1 : Int32)) * (32 : Int32)) + (0 : Int32)), .ref 94]) (by decide +kernel) rfl rfl ?_
    refine ab_fin.s2 (i := .iload 4) (k := 2) (pc' := 56) (lv' := [(7, .int (((τ1.i 83 6) + (1 : Int32)) * (32 : Int32))), (6, .int v3), (0, .ref 83), (1, .int l1), (2, .int l2), (3, .int l3), (4, .int l4), (5, .int l5)]) (st' := [.int l4, .int ((((τ1.i 83 6) + (1 : Int32)) * (32 : Int32)) + (0 : Int32)), .ref 94]) (by decide +kernel) rfl rfl ?_
    refine ab_fin.s1 (i := .i2l) (k := 1) (pc' := 57) (st' := [.long ((Int32.toInt64 l4)), .int ((((τ1.i 83 6) + (1 : Int32)) * (32 : Int32)) + (0 : Int32)), .ref 94]) (by decide +kernel) rfl rfl ?_
    obtain ⟨e4, w⟩ := w
    refine ab_fin.q_sL (h1 := conc ((τ1.wi 83 6 ((τ1.i 83 6) + (1 : Int32))).wl 94 (((((τ1.i 83 6) + (1 : Int32)) * (32 : Int32)) + (0 : Int32)).toNatClampNeg) ((Int32.toInt64 l4)))) (pc' := 58) (by decide +kernel) (c_sL' (F2.s t0_94) e4 rfl) rfl ?_
    refine ab_fin.s2 (i := .aload_n 0) (k := 1) (pc' := 59) (lv' := [(7, .int (((τ1.i 83 6) + (1 : Int32)) * (32 : Int32))), (6, .int v3), (0, .ref 83), (1, .int l1), (2, .int l2), (3, .int l3), (4, .int l4), (5, .int l5)]) (st' := [.ref 83]) (by decide +kernel) rfl rfl ?_
    refine ab_fin.q_rA (b := 94) (ix := 15) (ci := 5) (k := 3) (pc' := 62) (by decide +kernel) rfl (c_rA (F2.s t0_83) rfl (rC_5_3 F2 t0_83)) rfl ?_
    refine ab_fin.s2 (i := .iload 7) (k := 2) (pc' := 64) (lv' := [(7, .int (((τ1.i 83 6) + (1 : Int32)) * (32 : Int32))), (6, .int v3), (0, .ref 83), (1, .int l1), (2, .int l2), (3, .int l3), (4, .int l4), (5, .int l5)]) (st' := [.int (((τ1.i 83 6) + (1 : Int32)) * (32 : Int32)), .ref 94]) (by decide +kernel) rfl rfl ?_
    refine ab_fin.s1i (i := .iconst 1) (k := 1) (pc' := 65) (n := 1) (by decide +kernel) rfl (by decide +kernel) rfl ?_
    refine ab_fin.s1 (i := .iadd) (k := 1) (pc' := 66) (st' := [.int ((((τ1.i 83 6) + (1 : Int32)) * (32 : Int32)) + (1 : Int32)), .ref 94]) (by decide +kernel) rfl rfl ?_
    refine ab_fin.s2 (i := .iload 6) (k := 2) (pc' := 68) (lv' := [(7, .int (((τ1.i 83 6) + (1 : Int32)) * (32 : Int32))), (6, .int v3), (0, .ref 83), (1, .int l1), (2, .int l2), (3, .int l3), (4, .int l4), (5, .int l5)]) (st' := [.int v3, .int ((((τ1.i 83 6) + (1 : Int32)) * (32 : Int32)) + (1 : Int32)), .ref 94]) (by decide +kernel) rfl rfl ?_
    refine ab_fin.s1 (i := .i2l) (k := 1) (pc' := 69) (st' := [.long ((Int32.toInt64 v3)), .int ((((τ1.i 83 6) + (1 : Int32)) * (32 : Int32)) + (1 : Int32)), .ref 94]) (by decide +kernel) rfl rfl ?_
    obtain ⟨e5, w⟩ := w
    refine ab_fin.q_sL (h1 := conc (((τ1.wi 83 6 ((τ1.i 83 6) + (1 : Int32))).wl 94 (((((τ1.i 83 6) + (1 : Int32)) * (32 : Int32)) + (0 : Int32)).toNatClampNeg) ((Int32.toInt64 l4))).wl 94 (((((τ1.i 83 6) + (1 : Int32)) * (32 : Int32)) + (1 : Int32)).toNatClampNeg) ((Int32.toInt64 v3)))) (pc' := 70) (by decide +kernel) (c_sL' (F2.s t0_94) e5 rfl) rfl ?_
    refine ab_fin.s2 (i := .aload_n 0) (k := 1) (pc' := 71) (lv' := [(7, .int (((τ1.i 83 6) + (1 : Int32)) * (32 : Int32))), (6, .int v3), (0, .ref 83), (1, .int l1), (2, .int l2), (3, .int l3), (4, .int l4), (5, .int l5)]) (st' := [.ref 83]) (by decide +kernel) rfl rfl ?_
    refine ab_fin.q_rA (b := 94) (ix := 15) (ci := 5) (k := 3) (pc' := 74) (by decide +kernel) rfl (c_rA (F2.s t0_83) rfl (rC_5_3 F2 t0_83)) rfl ?_
    refine ab_fin.s2 (i := .iload 7) (k := 2) (pc' := 76) (lv' := [(7, .int (((τ1.i 83 6) + (1 : Int32)) * (32 : Int32))), (6, .int v3), (0, .ref 83), (1, .int l1), (2, .int l2), (3, .int l3), (4, .int l4), (5, .int l5)]) (st' := [.int (((τ1.i 83 6) + (1 : Int32)) * (32 : Int32)), .ref 94]) (by decide +kernel) rfl rfl ?_
    refine ab_fin.s1i (i := .iconst 2) (k := 1) (pc' := 77) (n := 2) (by decide +kernel) rfl (by decide +kernel) rfl ?_
    refine ab_fin.s1 (i := .iadd) (k := 1) (pc' := 78) (st' := [.int ((((τ1.i 83 6) + (1 : Int32)) * (32 : Int32)) + (2 : Int32)), .ref 94]) (by decide +kernel) rfl rfl ?_
    refine ab_fin.s2 (i := .iload_n 1) (k := 1) (pc' := 79) (lv' := [(7, .int (((τ1.i 83 6) + (1 : Int32)) * (32 : Int32))), (6, .int v3), (0, .ref 83), (1, .int l1), (2, .int l2), (3, .int l3), (4, .int l4), (5, .int l5)]) (st' := [.int l1, .int ((((τ1.i 83 6) + (1 : Int32)) * (32 : Int32)) + (2 : Int32)), .ref 94]) (by decide +kernel) rfl rfl ?_
    refine ab_fin.s1 (i := .i2l) (k := 1) (pc' := 80) (st' := [.long ((Int32.toInt64 l1)), .int ((((τ1.i 83 6) + (1 : Int32)) * (32 : Int32)) + (2 : Int32)), .ref 94]) (by decide +kernel) rfl rfl ?_
    obtain ⟨e6, w⟩ := w
    refine ab_fin.q_sL (h1 := conc ((((τ1.wi 83 6 ((τ1.i 83 6) + (1 : Int32))).wl 94 (((((τ1.i 83 6) + (1 : Int32)) * (32 : Int32)) + (0 : Int32)).toNatClampNeg) ((Int32.toInt64 l4))).wl 94 (((((τ1.i 83 6) + (1 : Int32)) * (32 : Int32)) + (1 : Int32)).toNatClampNeg) ((Int32.toInt64 v3))).wl 94 (((((τ1.i 83 6) + (1 : Int32)) * (32 : Int32)) + (2 : Int32)).toNatClampNeg) ((Int32.toInt64 l1)))) (pc' := 81) (by decide +kernel) (c_sL' (F2.s t0_94) e6 rfl) rfl ?_
    refine ab_fin.s2 (i := .aload_n 0) (k := 1) (pc' := 82) (lv' := [(7, .int (((τ1.i 83 6) + (1 : Int32)) * (32 : Int32))), (6, .int v3), (0, .ref 83), (1, .int l1), (2, .int l2), (3, .int l3), (4, .int l4), (5, .int l5)]) (st' := [.ref 83]) (by decide +kernel) rfl rfl ?_
    refine ab_fin.q_rA (b := 94) (ix := 15) (ci := 5) (k := 3) (pc' := 85) (by decide +kernel) rfl (c_rA (F2.s t0_83) rfl (rC_5_3 F2 t0_83)) rfl ?_
    refine ab_fin.s2 (i := .iload 7) (k := 2) (pc' := 87) (lv' := [(7, .int (((τ1.i 83 6) + (1 : Int32)) * (32 : Int32))), (6, .int v3), (0, .ref 83), (1, .int l1), (2, .int l2), (3, .int l3), (4, .int l4), (5, .int l5)]) (st' := [.int (((τ1.i 83 6) + (1 : Int32)) * (32 : Int32)), .ref 94]) (by decide +kernel) rfl rfl ?_
    refine ab_fin.s1i (i := .iconst 3) (k := 1) (pc' := 88) (n := 3) (by decide +kernel) rfl (by decide +kernel) rfl ?_
    refine ab_fin.s1 (i := .iadd) (k := 1) (pc' := 89) (st' := [.int ((((τ1.i 83 6) + (1 : Int32)) * (32 : Int32)) + (3 : Int32)), .ref 94]) (by decide +kernel) rfl rfl ?_
    refine ab_fin.s2 (i := .iload_n 3) (k := 1) (pc' := 90) (lv' := [(7, .int (((τ1.i 83 6) + (1 : Int32)) * (32 : Int32))), (6, .int v3), (0, .ref 83), (1, .int l1), (2, .int l2), (3, .int l3), (4, .int l4), (5, .int l5)]) (st' := [.int l3, .int ((((τ1.i 83 6) + (1 : Int32)) * (32 : Int32)) + (3 : Int32)), .ref 94]) (by decide +kernel) rfl rfl ?_
    refine ab_fin.s1 (i := .i2l) (k := 1) (pc' := 91) (st' := [.long ((Int32.toInt64 l3)), .int ((((τ1.i 83 6) + (1 : Int32)) * (32 : Int32)) + (3 : Int32)), .ref 94]) (by decide +kernel) rfl rfl ?_
    obtain ⟨e7, w⟩ := w
    refine ab_fin.q_sL (h1 := conc (((((τ1.wi 83 6 ((τ1.i 83 6) + (1 : Int32))).wl 94 (((((τ1.i 83 6) + (1 : Int32)) * (32 : Int32)) + (0 : Int32)).toNatClampNeg) ((Int32.toInt64 l4))).wl 94 (((((τ1.i 83 6) + (1 : Int32)) * (32 : Int32)) + (1 : Int32)).toNatClampNeg) ((Int32.toInt64 v3))).wl 94 (((((τ1.i 83 6) + (1 : Int32)) * (32 : Int32)) + (2 : Int32)).toNatClampNeg) ((Int32.toInt64 l1))).wl 94 (((((τ1.i 83 6) + (1 : Int32)) * (32 : Int32)) + (3 : Int32)).toNatClampNeg) ((Int32.toInt64 l3)))) (pc' := 92) (by decide +kernel) (c_sL' (F2.s t0_94) e7 rfl) rfl ?_
    refine ab_fin.s2 (i := .aload_n 0) (k := 1) (pc' := 93) (lv' := [(7, .int (((τ1.i 83 6) + (1 : Int32)) * (32 : Int32))), (6, .int v3), (0, .ref 83), (1, .int l1), (2, .int l2), (3, .int l3), (4, .int l4), (5, .int l5)]) (st' := [.ref 83]) (by decide +kernel) rfl rfl ?_
    refine ab_fin.q_rA (b := 94) (ix := 15) (ci := 5) (k := 3) (pc' := 96) (by decide +kernel) rfl (c_rA (F2.s t0_83) rfl (rC_5_3 F2 t0_83)) rfl ?_
    refine ab_fin.s2 (i := .iload 7) (k := 2) (pc' := 98) (lv' := [(7, .int (((τ1.i 83 6) + (1 : Int32)) * (32 : Int32))), (6, .int v3), (0, .ref 83), (1, .int l1), (2, .int l2), (3, .int l3), (4, .int l4), (5, .int l5)]) (st' := [.int (((τ1.i 83 6) + (1 : Int32)) * (32 : Int32)), .ref 94]) (by decide +kernel) rfl rfl ?_
    refine ab_fin.s1i (i := .iconst 4) (k := 1) (pc' := 99) (n := 4) (by decide +kernel) rfl (by decide +kernel) rfl ?_
    refine ab_fin.s1 (i := .iadd) (k := 1) (pc' := 100) (st' := [.int ((((τ1.i 83 6) + (1 : Int32)) * (32 : Int32)) + (4 : Int32)), .ref 94]) (by decide +kernel) rfl rfl ?_
    refine ab_fin.s2 (i := .iload 5) (k := 2) (pc' := 102) (lv' := [(7, .int (((τ1.i 83 6) + (1 : Int32)) * (32 : Int32))), (6, .int v3), (0, .ref 83), (1, .int l1), (2, .int l2), (3, .int l3), (4, .int l4), (5, .int l5)]) (st' := [.int l5, .int ((((τ1.i 83 6) + (1 : Int32)) * (32 : Int32)) + (4 : Int32)), .ref 94]) (by decide +kernel) rfl rfl ?_
    refine ab_fin.br (c := l5 = 0) (i := .ifCond .eq 7) (off := 7) (t := 109) (pc' := 105) (r := [.int ((((τ1.i 83 6) + (1 : Int32)) * (32 : Int32)) + (4 : Int32)), .ref 94]) (by decide +kernel) rfl (by decide +kernel) rfl (fun q => ?_) (fun q => ?_)
    · replace w := w.1 q
      refine ab_fin.s1l (i := .lconst 0) (k := 1) (pc' := 110) (n := 0) (by decide +kernel) rfl (by decide +kernel) rfl ?_
      exact ab_fin.lv ⟨(List.forall_mem_cons.mpr ⟨(List.Mem.tail _ (List.Mem.tail _ (List.Mem.head _))), (List.forall_mem_cons.mpr ⟨(List.Mem.tail _ (List.Mem.head _)), (List.forall_mem_cons.mpr ⟨(List.Mem.head _), (fun _ h => absurd h List.not_mem_nil)⟩)⟩)⟩), (show ([7, 6, 0, 1, 2, 3, 4, 5] : List Nat).Nodup from by decide)⟩ w
    · replace w := w.2 q
      refine ab_fin.s1l (i := .lconst 1) (k := 1) (pc' := 106) (n := 1) (by decide +kernel) rfl (by decide +kernel) rfl ?_
      refine ab_fin.s3 (i := .goto 4) (k := 3) (t := 110) (st' := [.long 1, .int ((((τ1.i 83 6) + (1 : Int32)) * (32 : Int32)) + (4 : Int32)), .ref 94]) (by decide +kernel) (ab_gto (by decide +kernel)) ?_
      exact ab_fin.lv ⟨(List.forall_mem_cons.mpr ⟨(List.Mem.tail _ (List.Mem.tail _ (List.Mem.head _))), (List.forall_mem_cons.mpr ⟨(List.Mem.tail _ (List.Mem.head _)), (List.forall_mem_cons.mpr ⟨(List.Mem.head _), (fun _ h => absurd h List.not_mem_nil)⟩)⟩)⟩), (show ([7, 6, 0, 1, 2, 3, 4, 5] : List Nat).Nodup from by decide)⟩ w
  · replace w := w.2 q
    refine ab_fin.s2 (i := .aload_n 0) (k := 1) (pc' := 10) (lv' := [(0, .ref 83), (1, .int l1), (2, .int l2), (3, .int l3), (4, .int l4), (5, .int l5)]) (st' := [.ref 83]) (by decide +kernel) rfl rfl ?_
    refine ab_fin.s1i (i := .iconst 4) (k := 1) (pc' := 11) (n := 4) (by decide +kernel) rfl (by decide +kernel) rfl ?_
    refine ab_fin.q_pF (ix := 115) (ci := 5) (k := 9) (h1 := conc (σ.wi 83 9 (4 : Int32))) (pc' := 14) (by decide +kernel) rfl (c_pI (v := 4) (F.s t0_83) rfl) rfl rfl rfl ?_
    exact ab_fin.q_ret (i := .return_) (k := 1) (v := none) (by decide +kernel) rfl F w
theorem T_X4_beginMethod_110 {Z : zT} {d : Nat} {σ : Sg} {l6 : Int32} {l7 : Int32} {s1 : Int32} {s2 : Int64} {K : kS} (F : FX ΦC σ.sh σ.r) (w : ib s1 832 ∧ (cpb (0 : Int32) (l7 + (16 : Int32)) (3 : Int32) 3 832 ∧ ((512 ≤ (σ.i 83 18) → C_X4_beginMethod_150 Z (d + 1) ((σ.wl 94 s1.toNatClampNeg s2).cpL 95 ((0 : Int32).toNatClampNeg) 94 ((l7 + (16 : Int32)).toNatClampNeg) ((3 : Int32).toNatClampNeg)) l6 K) ∧ (¬ 512 ≤ (σ.i 83 18) → ib (σ.i 83 18) 512 ∧ (C_X4_beginMethod_150 Z (d + 1) (((σ.wl 94 s1.toNatClampNeg s2).cpL 95 ((0 : Int32).toNatClampNeg) 94 ((l7 + (16 : Int32)).toNatClampNeg) ((3 : Int32).toNatClampNeg)).wi 97 ((σ.i 83 18).toNatClampNeg) l6) l6 K))))) : C_X4_beginMethod_110 Z (d + 1) σ l6 l7 s1 s2 K := by
  unfold C_X4_beginMethod_110
  obtain ⟨e1, w⟩ := w
  refine ab_fin.q_sL (h1 := conc (σ.wl 94 s1.toNatClampNeg s2)) (pc' := 111) (by decide +kernel) (c_sL' (F.s t0_94) e1 rfl) rfl ?_
  refine ab_fin.s2 (i := .aload_n 0) (k := 1) (pc' := 112) (lv' := [(0, .ref 83), (6, .int l6), (7, .int l7)]) (st' := [.ref 83]) (by decide +kernel) rfl rfl ?_
  refine ab_fin.q_rA (b := 95) (ix := 18) (ci := 5) (k := 4) (pc' := 115) (by decide +kernel) rfl (c_rA (F.s t0_83) rfl (rC_5_4 F t0_83)) rfl ?_
  refine ab_fin.s1i (i := .iconst 0) (k := 1) (pc' := 116) (n := 0) (by decide +kernel) rfl (by decide +kernel) rfl ?_
  refine ab_fin.s2 (i := .aload_n 0) (k := 1) (pc' := 117) (lv' := [(0, .ref 83), (6, .int l6), (7, .int l7)]) (st' := [.ref 83, .int 0, .ref 95]) (by decide +kernel) rfl rfl ?_
  refine ab_fin.q_rA (b := 94) (ix := 15) (ci := 5) (k := 3) (pc' := 120) (by decide +kernel) rfl (c_rA (F.s t0_83) rfl (rC_5_3 F t0_83)) rfl ?_
  refine ab_fin.s2 (i := .iload 7) (k := 2) (pc' := 122) (lv' := [(0, .ref 83), (6, .int l6), (7, .int l7)]) (st' := [.int l7, .ref 94, .int 0, .ref 95]) (by decide +kernel) rfl rfl ?_
  refine ab_fin.s1i (i := .bipush 16) (k := 2) (pc' := 124) (n := 16) (by decide +kernel) rfl (by decide +kernel) rfl ?_
  refine ab_fin.s1 (i := .iadd) (k := 1) (pc' := 125) (st' := [.int (l7 + (16 : Int32)), .ref 94, .int 0, .ref 95]) (by decide +kernel) rfl rfl ?_
  refine ab_fin.s1i (i := .iconst 3) (k := 1) (pc' := 126) (n := 3) (by decide +kernel) rfl (by decide +kernel) rfl ?_
  obtain ⟨e2, w⟩ := w
  refine ab_fin.cpy (i := .invokestatic 203) (k := 3) (pc' := 129) (h1 := conc ((σ.wl 94 s1.toNatClampNeg s2).cpL 95 ((0 : Int32).toNatClampNeg) 94 ((l7 + (16 : Int32)).toNatClampNeg) ((3 : Int32).toNatClampNeg))) (st' := []) (by decide +kernel) (ab_cpT rfl (c_cpL (F.s t0_95) (F.s t0_94) e2 (by decide))) rfl ?_
  refine ab_fin.s2 (i := .aload_n 0) (k := 1) (pc' := 130) (lv' := [(0, .ref 83), (6, .int l6), (7, .int l7)]) (st' := [.ref 83]) (by decide +kernel) rfl rfl ?_
  refine ab_fin.q_rI (x := (σ.i 83 18)) (ix := 137) (ci := 5) (k := 18) (pc' := 133) (by decide +kernel) rfl (c_rI (F.s t0_83) rfl) rfl ?_
  refine ab_fin.s1i (i := .sipush 512) (k := 3) (pc' := 136) (n := 512) (by decide +kernel) rfl (by decide +kernel) rfl ?_
  refine ab_fin.br (c := 512 ≤ (σ.i 83 18)) (i := .if_icmp .ge 14) (off := 14) (t := 150) (pc' := 139) (r := []) (by decide +kernel) rfl (by decide +kernel) rfl (fun q => ?_) (fun q => ?_)
  · replace w := w.1 q
    exact ab_fin.lv ⟨(List.forall_mem_cons.mpr ⟨(List.Mem.head _), (List.forall_mem_cons.mpr ⟨(List.Mem.tail _ (List.Mem.head _)), (fun _ h => absurd h List.not_mem_nil)⟩)⟩), (show ([0, 6, 7] : List Nat).Nodup from by decide)⟩ w
  · replace w := w.2 q
    refine ab_fin.s2 (i := .aload_n 0) (k := 1) (pc' := 140) (lv' := [(0, .ref 83), (6, .int l6), (7, .int l7)]) (st' := [.ref 83]) (by decide +kernel) rfl rfl ?_
    refine ab_fin.q_rA (b := 97) (ix := 29) (ci := 5) (k := 17) (pc' := 143) (by decide +kernel) rfl (c_rA (F.s t0_83) rfl (rC_5_17 F t0_83)) rfl ?_
    refine ab_fin.s2 (i := .aload_n 0) (k := 1) (pc' := 144) (lv' := [(0, .ref 83), (6, .int l6), (7, .int l7)]) (st' := [.ref 83, .ref 97]) (by decide +kernel) rfl rfl ?_
    refine ab_fin.q_rI (x := (σ.i 83 18)) (ix := 137) (ci := 5) (k := 18) (pc' := 147) (by decide +kernel) rfl (c_rI (F.s t0_83) rfl) rfl ?_
    refine ab_fin.s2 (i := .iload 6) (k := 2) (pc' := 149) (lv' := [(0, .ref 83), (6, .int l6), (7, .int l7)]) (st' := [.int l6, .int (σ.i 83 18), .ref 97]) (by decide +kernel) rfl rfl ?_
    obtain ⟨e4, w⟩ := w
    refine ab_fin.q_sI (h1 := conc (((σ.wl 94 s1.toNatClampNeg s2).cpL 95 ((0 : Int32).toNatClampNeg) 94 ((l7 + (16 : Int32)).toNatClampNeg) ((3 : Int32).toNatClampNeg)).wi 97 ((σ.i 83 18).toNatClampNeg) l6)) (pc' := 150) (by decide +kernel) (c_sI' (F.s t0_97) e4 rfl) rfl ?_
    exact ab_fin.lv ⟨(List.forall_mem_cons.mpr ⟨(List.Mem.head _), (List.forall_mem_cons.mpr ⟨(List.Mem.tail _ (List.Mem.head _)), (fun _ h => absurd h List.not_mem_nil)⟩)⟩), (show ([0, 6, 7] : List Nat).Nodup from by decide)⟩ w
theorem T_X4_beginMethod_150 {Z : zT} {d : Nat} {σ : Sg} {l6 : Int32} {K : kS} (F : FX ΦC σ.sh σ.r) (w : ib l6 122 ∧ (K (.inl none) ((σ.wi 83 18 ((σ.i 83 18) + (1 : Int32))).wi 83 7 (σ.i 14 l6.toNatClampNeg)))) : C_X4_beginMethod_150 Z (d + 1) σ l6 K := by
  unfold C_X4_beginMethod_150
  refine ab_fin.s2 (i := .aload_n 0) (k := 1) (pc' := 151) (lv' := [(0, .ref 83), (6, .int l6)]) (st' := [.ref 83]) (by decide +kernel) rfl rfl ?_
  refine ab_fin.s1 (i := .dup) (k := 1) (pc' := 152) (st' := [.ref 83, .ref 83]) (by decide +kernel) rfl rfl ?_
  refine ab_fin.q_rI (x := (σ.i 83 18)) (ix := 137) (ci := 5) (k := 18) (pc' := 155) (by decide +kernel) rfl (c_rI (F.s t0_83) rfl) rfl ?_
  refine ab_fin.s1i (i := .iconst 1) (k := 1) (pc' := 156) (n := 1) (by decide +kernel) rfl (by decide +kernel) rfl ?_
  refine ab_fin.s1 (i := .iadd) (k := 1) (pc' := 157) (st' := [.int ((σ.i 83 18) + (1 : Int32)), .ref 83]) (by decide +kernel) rfl rfl ?_
  refine ab_fin.q_pF (ix := 137) (ci := 5) (k := 18) (h1 := conc (σ.wi 83 18 ((σ.i 83 18) + (1 : Int32)))) (pc' := 160) (by decide +kernel) rfl (c_pI (v := ((σ.i 83 18) + (1 : Int32))) (F.s t0_83) rfl) rfl rfl rfl ?_
  refine ab_fin.s2 (i := .aload_n 0) (k := 1) (pc' := 161) (lv' := [(0, .ref 83), (6, .int l6)]) (st' := [.ref 83]) (by decide +kernel) rfl rfl ?_
  refine ab_fin.s2 (i := .aload_n 0) (k := 1) (pc' := 162) (lv' := [(0, .ref 83), (6, .int l6)]) (st' := [.ref 83, .ref 83]) (by decide +kernel) rfl rfl ?_
  refine ab_fin.q_rA (b := 1) (ix := 32) (ci := 5) (k := 0) (pc' := 165) (by decide +kernel) rfl (c_rA (F.s t0_83) rfl (rC_5_0 F t0_83)) rfl ?_
  refine ab_fin.q_rA (b := 10) (ix := 209) (ci := 12) (k := 1) (pc' := 168) (by decide +kernel) rfl (c_rA (F.s t0_1) rfl (rC_12_1 F t0_1)) rfl ?_
  refine ab_fin.q_rA (b := 14) (ix := 213) (ci := 6) (k := 4) (pc' := 171) (by decide +kernel) rfl (c_rA (F.s t0_10) rfl (rC_6_4 F t0_10)) rfl ?_
  refine ab_fin.s2 (i := .iload 6) (k := 2) (pc' := 173) (lv' := [(0, .ref 83), (6, .int l6)]) (st' := [.int l6, .ref 14, .ref 83]) (by decide +kernel) rfl rfl ?_
  obtain ⟨e1, w⟩ := w
  refine ab_fin.q_eI (x := (σ.i 14 l6.toNatClampNeg)) (pc' := 174) (by decide +kernel) (c_eI' (F.s t0_14) e1 rfl) rfl ?_
  refine ab_fin.q_pF (ix := 53) (ci := 5) (k := 7) (h1 := conc ((σ.wi 83 18 ((σ.i 83 18) + (1 : Int32))).wi 83 7 (σ.i 14 l6.toNatClampNeg))) (pc' := 177) (by decide +kernel) rfl (c_pI (v := (σ.i 14 l6.toNatClampNeg)) (F.s t0_83) rfl) rfl rfl rfl ?_
  exact ab_fin.q_ret (i := .return_) (k := 1) (v := none) (by decide +kernel) rfl F w
theorem T_X4_goToNext_0 {Z : zT} {d : Nat} {σ : Sg} {l1 : Int32} {K : kS} (F : FX ΦC σ.sh σ.r) (w : C_X4_inFrame_0 Z d σ (σ.i 83 6) 1 (yI K fun v3 τ1 => ib v3 122 ∧ ((l1 = 0 → cpb (((σ.i 83 6) * (32 : Int32)) + (16 : Int32)) (0 : Int32) (3 : Int32) 832 3 ∧ (C_X4_goToNext_70 Z (d + 1) (τ1.cpL 94 ((((σ.i 83 6) * (32 : Int32)) + (16 : Int32)).toNatClampNeg) 95 ((0 : Int32).toNatClampNeg) ((3 : Int32).toNatClampNeg)) v3 (τ1.i 11 v3.toNatClampNeg) K)) ∧ (¬ l1 = 0 → ib (τ1.i 11 v3.toNatClampNeg) 24 ∧ (C_X4_takeGiven_0 Z d τ1 (τ1.i 31 ((τ1.i 11 v3.toNatClampNeg).toNatClampNeg)) (yN K fun τ8 => C_X4_goToNext_70 Z (d + 1) τ8 v3 (τ1.i 11 v3.toNatClampNeg) K)))))) : C_X4_goToNext_0 Z (d + 1) σ l1 K := by
  unfold C_X4_goToNext_0
  refine ab_fin.s2 (i := .aload_n 0) (k := 1) (pc' := 1) (lv' := [(0, .ref 83), (1, .int l1)]) (st' := [.ref 83]) (by decide +kernel) rfl rfl ?_
  refine ab_fin.q_rI (x := (σ.i 83 6)) (ix := 80) (ci := 5) (k := 6) (pc' := 4) (by decide +kernel) rfl (c_rI (F.s t0_83) rfl) rfl ?_
  refine ab_fin.s1i (i := .bipush 32) (k := 2) (pc' := 6) (n := 32) (by decide +kernel) rfl (by decide +kernel) rfl ?_
  refine ab_fin.s1 (i := .imul) (k := 1) (pc' := 7) (st' := [.int ((σ.i 83 6) * (32 : Int32))]) (by decide +kernel) rfl rfl ?_
  refine ab_fin.s2 (i := .istore_n 2) (k := 1) (pc' := 8) (lv' := [(2, .int ((σ.i 83 6) * (32 : Int32))), (0, .ref 83), (1, .int l1)]) (st' := []) (by decide +kernel) rfl rfl ?_
  refine ab_fin.s2 (i := .aload_n 0) (k := 1) (pc' := 9) (lv' := [(2, .int ((σ.i 83 6) * (32 : Int32))), (0, .ref 83), (1, .int l1)]) (st' := [.ref 83]) (by decide +kernel) rfl rfl ?_
  refine ab_fin.s2 (i := .aload_n 0) (k := 1) (pc' := 10) (lv' := [(2, .int ((σ.i 83 6) * (32 : Int32))), (0, .ref 83), (1, .int l1)]) (st' := [.ref 83, .ref 83]) (by decide +kernel) rfl rfl ?_
  refine ab_fin.q_rI (x := (σ.i 83 6)) (ix := 80) (ci := 5) (k := 6) (pc' := 13) (by decide +kernel) rfl (c_rI (F.s t0_83) rfl) rfl ?_
  refine ab_fin.s1i (i := .iconst 1) (k := 1) (pc' := 14) (n := 1) (by decide +kernel) rfl (by decide +kernel) rfl ?_
  refine ab_fin.q_yI (i := .invokevirtual 218) (k := 3) (y := 1041) (As := [.ref 83, .int (σ.i 83 6), .int 1]) (rest := []) (M' := (mX4_inFrame, [])) (lv2 := [(0, .ref 83), (1, .int (σ.i 83 6)), (2, .int 1)]) (pc' := 17) (X := K) (by decide +kernel) (ab_cv rfl rfl (conc_get (σ := σ) (F.s t0_83)) ⟨(Nat.le_of_ble_eq_true rfl), (Nat.le_of_ble_eq_true rfl)⟩ rfl) rfl (Nat.le_of_ble_eq_true rfl) rfl rfl (hY_no fun E => rfl) w (fun v3 τ1 F2 w => ?_)
  refine ab_fin.s2 (i := .istore_n 3) (k := 1) (pc' := 18) (lv' := [(3, .int v3), (2, .int ((σ.i 83 6) * (32 : Int32))), (0, .ref 83), (1, .int l1)]) (st' := []) (by decide +kernel) rfl rfl ?_
  refine ab_fin.s2 (i := .aload_n 0) (k := 1) (pc' := 19) (lv' := [(3, .int v3), (2, .int ((σ.i 83 6) * (32 : Int32))), (0, .ref 83), (1, .int l1)]) (st' := [.ref 83]) (by decide +kernel) rfl rfl ?_
  refine ab_fin.q_rA (b := 1) (ix := 32) (ci := 5) (k := 0) (pc' := 22) (by decide +kernel) rfl (c_rA (F2.s t0_83) rfl (rC_5_0 F2 t0_83)) rfl ?_
  refine ab_fin.q_rA (b := 10) (ix := 209) (ci := 12) (k := 1) (pc' := 25) (by decide +kernel) rfl (c_rA (F2.s t0_1) rfl (rC_12_1 F2 t0_1)) rfl ?_
  refine ab_fin.q_rA (b := 11) (ix := 221) (ci := 6) (k := 1) (pc' := 28) (by decide +kernel) rfl (c_rA (F2.s t0_10) rfl (rC_6_1 F2 t0_10)) rfl ?_
  refine ab_fin.s2 (i := .iload_n 3) (k := 1) (pc' := 29) (lv' := [(3, .int v3), (2, .int ((σ.i 83 6) * (32 : Int32))), (0, .ref 83), (1, .int l1)]) (st' := [.int v3, .ref 11]) (by decide +kernel) rfl rfl ?_
  obtain ⟨e4, w⟩ := w
  refine ab_fin.q_eI (x := (τ1.i 11 v3.toNatClampNeg)) (pc' := 30) (by decide +kernel) (c_eI' (F2.s t0_11) e4 rfl) rfl ?_
  refine ab_fin.s2 (i := .istore 4) (k := 2) (pc' := 32) (lv' := [(4, .int (τ1.i 11 v3.toNatClampNeg)), (3, .int v3), (2, .int ((σ.i 83 6) * (32 : Int32))), (0, .ref 83), (1, .int l1)]) (st' := []) (by decide +kernel) rfl rfl ?_
  refine ab_fin.s2 (i := .iload_n 1) (k := 1) (pc' := 33) (lv' := [(4, .int (τ1.i 11 v3.toNatClampNeg)), (3, .int v3), (2, .int ((σ.i 83 6) * (32 : Int32))), (0, .ref 83), (1, .int l1)]) (st' := [.int l1]) (by decide +kernel) rfl rfl ?_
  refine ab_fin.br (c := l1 = 0) (i := .ifCond .eq 20) (off := 20) (t := 53) (pc' := 36) (r := []) (by decide +kernel) rfl (by decide +kernel) rfl (fun q => ?_) (fun q => ?_)
  · replace w := w.1 q
    refine ab_fin.s2 (i := .aload_n 0) (k := 1) (pc' := 54) (lv' := [(4, .int (τ1.i 11 v3.toNatClampNeg)), (3, .int v3), (2, .int ((σ.i 83 6) * (32 : Int32))), (0, .ref 83), (1, .int l1)]) (st' := [.ref 83]) (by decide +kernel) rfl rfl ?_
    refine ab_fin.q_rA (b := 94) (ix := 15) (ci := 5) (k := 3) (pc' := 57) (by decide +kernel) rfl (c_rA (F2.s t0_83) rfl (rC_5_3 F2 t0_83)) rfl ?_
    refine ab_fin.s2 (i := .iload_n 2) (k := 1) (pc' := 58) (lv' := [(4, .int (τ1.i 11 v3.toNatClampNeg)), (3, .int v3), (2, .int ((σ.i 83 6) * (32 : Int32))), (0, .ref 83), (1, .int l1)]) (st' := [.int ((σ.i 83 6) * (32 : Int32)), .ref 94]) (by decide +kernel) rfl rfl ?_
    refine ab_fin.s1i (i := .bipush 16) (k := 2) (pc' := 60) (n := 16) (by decide +kernel) rfl (by decide +kernel) rfl ?_
    refine ab_fin.s1 (i := .iadd) (k := 1) (pc' := 61) (st' := [.int (((σ.i 83 6) * (32 : Int32)) + (16 : Int32)), .ref 94]) (by decide +kernel) rfl rfl ?_
    refine ab_fin.s2 (i := .aload_n 0) (k := 1) (pc' := 62) (lv' := [(4, .int (τ1.i 11 v3.toNatClampNeg)), (3, .int v3), (2, .int ((σ.i 83 6) * (32 : Int32))), (0, .ref 83), (1, .int l1)]) (st' := [.ref 83, .int (((σ.i 83 6) * (32 : Int32)) + (16 : Int32)), .ref 94]) (by decide +kernel) rfl rfl ?_
    refine ab_fin.q_rA (b := 95) (ix := 18) (ci := 5) (k := 4) (pc' := 65) (by decide +kernel) rfl (c_rA (F2.s t0_83) rfl (rC_5_4 F2 t0_83)) rfl ?_
    refine ab_fin.s1i (i := .iconst 0) (k := 1) (pc' := 66) (n := 0) (by decide +kernel) rfl (by decide +kernel) rfl ?_
    refine ab_fin.s1i (i := .iconst 3) (k := 1) (pc' := 67) (n := 3) (by decide +kernel) rfl (by decide +kernel) rfl ?_
    obtain ⟨e5, w⟩ := w
    refine ab_fin.cpy (i := .invokestatic 203) (k := 3) (pc' := 70) (h1 := conc (τ1.cpL 94 ((((σ.i 83 6) * (32 : Int32)) + (16 : Int32)).toNatClampNeg) 95 ((0 : Int32).toNatClampNeg) ((3 : Int32).toNatClampNeg))) (st' := []) (by decide +kernel) (ab_cpT rfl (c_cpL (F2.s t0_94) (F2.s t0_95) e5 (by decide))) rfl ?_
    exact ab_fin.lv ⟨(List.forall_mem_cons.mpr ⟨(List.Mem.tail _ (List.Mem.tail _ (List.Mem.tail _ (List.Mem.head _)))), (List.forall_mem_cons.mpr ⟨(List.Mem.tail _ (List.Mem.head _)), (List.forall_mem_cons.mpr ⟨(List.Mem.head _), (fun _ h => absurd h List.not_mem_nil)⟩)⟩)⟩), (show ([4, 3, 2, 0, 1] : List Nat).Nodup from by decide)⟩ w
  · replace w := w.2 q
    refine ab_fin.s2 (i := .aload_n 0) (k := 1) (pc' := 37) (lv' := [(4, .int (τ1.i 11 v3.toNatClampNeg)), (3, .int v3), (2, .int ((σ.i 83 6) * (32 : Int32))), (0, .ref 83), (1, .int l1)]) (st' := [.ref 83]) (by decide +kernel) rfl rfl ?_
    refine ab_fin.s2 (i := .aload_n 0) (k := 1) (pc' := 38) (lv' := [(4, .int (τ1.i 11 v3.toNatClampNeg)), (3, .int v3), (2, .int ((σ.i 83 6) * (32 : Int32))), (0, .ref 83), (1, .int l1)]) (st' := [.ref 83, .ref 83]) (by decide +kernel) rfl rfl ?_
    refine ab_fin.q_rA (b := 1) (ix := 32) (ci := 5) (k := 0) (pc' := 41) (by decide +kernel) rfl (c_rA (F2.s t0_83) rfl (rC_5_0 F2 t0_83)) rfl ?_
    refine ab_fin.q_rA (b := 31) (ix := 74) (ci := 12) (k := 6) (pc' := 44) (by decide +kernel) rfl (c_rA (F2.s t0_1) rfl (rC_12_6 F2 t0_1)) rfl ?_
    refine ab_fin.s2 (i := .iload 4) (k := 2) (pc' := 46) (lv' := [(4, .int (τ1.i 11 v3.toNatClampNeg)), (3, .int v3), (2, .int ((σ.i 83 6) * (32 : Int32))), (0, .ref 83), (1, .int l1)]) (st' := [.int (τ1.i 11 v3.toNatClampNeg), .ref 31, .ref 83]) (by decide +kernel) rfl rfl ?_
    obtain ⟨e7, w⟩ := w
    refine ab_fin.q_eI (x := (τ1.i 31 ((τ1.i 11 v3.toNatClampNeg).toNatClampNeg))) (pc' := 47) (by decide +kernel) (c_eI' (F2.s t0_31) e7 rfl) rfl ?_
    refine ab_fin.q_yN (i := .invokevirtual 77) (k := 3) (y := 1032) (As := [.ref 83, .int (τ1.i 31 ((τ1.i 11 v3.toNatClampNeg).toNatClampNeg))]) (rest := []) (M' := (mX4_takeGiven, [])) (lv2 := [(0, .ref 83), (1, .int (τ1.i 31 ((τ1.i 11 v3.toNatClampNeg).toNatClampNeg)))]) (pc' := 50) (X := K) (by decide +kernel) (ab_cv rfl rfl (conc_get (σ := τ1) (F2.s t0_83)) ⟨(Nat.le_of_ble_eq_true rfl), (Nat.le_of_ble_eq_true rfl)⟩ rfl) rfl (Nat.le_of_ble_eq_true rfl) rfl rfl (hY_no fun E => rfl) w (fun τ8 F9 w => ?_)
    refine ab_fin.s3 (i := .goto 20) (k := 3) (t := 70) (st' := []) (by decide +kernel) (ab_gto (by decide +kernel)) ?_
    exact ab_fin.lv ⟨(List.forall_mem_cons.mpr ⟨(List.Mem.tail _ (List.Mem.tail _ (List.Mem.tail _ (List.Mem.head _)))), (List.forall_mem_cons.mpr ⟨(List.Mem.tail _ (List.Mem.head _)), (List.forall_mem_cons.mpr ⟨(List.Mem.head _), (fun _ h => absurd h List.not_mem_nil)⟩)⟩)⟩), (show ([4, 3, 2, 0, 1] : List Nat).Nodup from by decide)⟩ w
theorem T_X4_goToNext_70 {Z : zT} {d : Nat} {σ : Sg} {l3 : Int32} {l4 : Int32} {K : kS} (F : FX ΦC σ.sh σ.r) (w : ib l3 122 ∧ (C_X4_inFrame_0 Z d σ (σ.i 83 6) 2 (yI K fun v4 τ2 => C_X4_inFrame_0 Z d τ2 (τ2.i 83 6) 3 (yI K fun v7 τ5 => ((σ.i 12 l3.toNatClampNeg) = 1 → C_X4_goToNext_140 Z (d + 1) τ5 (σ.i 12 l3.toNatClampNeg) v4 (v7 + (1 : Int32)) K) ∧ (¬ (σ.i 12 l3.toNatClampNeg) = 1 → (¬ (σ.i 12 l3.toNatClampNeg) = 0 → K (.inl none) (τ5.wi 83 9 (1 : Int32))) ∧ ((σ.i 12 l3.toNatClampNeg) = 0 → ib l4 24 ∧ (((τ5.i 32 l4.toNatClampNeg) = 0 → C_X4_goToNext_140 Z (d + 1) τ5 (σ.i 12 l3.toNatClampNeg) v4 (v7 + (1 : Int32)) K) ∧ (¬ (τ5.i 32 l4.toNatClampNeg) = 0 → K (.inl none) (τ5.wi 83 9 (1 : Int32)))))))))) : C_X4_goToNext_70 Z (d + 1) σ l3 l4 K := by
  unfold C_X4_goToNext_70
  refine ab_fin.s2 (i := .aload_n 0) (k := 1) (pc' := 71) (lv' := [(0, .ref 83), (3, .int l3), (4, .int l4)]) (st' := [.ref 83]) (by decide +kernel) rfl rfl ?_
  refine ab_fin.q_rA (b := 1) (ix := 32) (ci := 5) (k := 0) (pc' := 74) (by decide +kernel) rfl (c_rA (F.s t0_83) rfl (rC_5_0 F t0_83)) rfl ?_
  refine ab_fin.q_rA (b := 10) (ix := 209) (ci := 12) (k := 1) (pc' := 77) (by decide +kernel) rfl (c_rA (F.s t0_1) rfl (rC_12_1 F t0_1)) rfl ?_
  refine ab_fin.q_rA (b := 12) (ix := 224) (ci := 6) (k := 2) (pc' := 80) (by decide +kernel) rfl (c_rA (F.s t0_10) rfl (rC_6_2 F t0_10)) rfl ?_
  refine ab_fin.s2 (i := .iload_n 3) (k := 1) (pc' := 81) (lv' := [(0, .ref 83), (3, .int l3), (4, .int l4)]) (st' := [.int l3, .ref 12]) (by decide +kernel) rfl rfl ?_
  obtain ⟨e1, w⟩ := w
  refine ab_fin.q_eI (x := (σ.i 12 l3.toNatClampNeg)) (pc' := 82) (by decide +kernel) (c_eI' (F.s t0_12) e1 rfl) rfl ?_
  refine ab_fin.s2 (i := .istore 5) (k := 2) (pc' := 84) (lv' := [(5, .int (σ.i 12 l3.toNatClampNeg)), (0, .ref 83), (3, .int l3), (4, .int l4)]) (st' := []) (by decide +kernel) rfl rfl ?_
  refine ab_fin.s2 (i := .aload_n 0) (k := 1) (pc' := 85) (lv' := [(5, .int (σ.i 12 l3.toNatClampNeg)), (0, .ref 83), (3, .int l3), (4, .int l4)]) (st' := [.ref 83]) (by decide +kernel) rfl rfl ?_
  refine ab_fin.s2 (i := .aload_n 0) (k := 1) (pc' := 86) (lv' := [(5, .int (σ.i 12 l3.toNatClampNeg)), (0, .ref 83), (3, .int l3), (4, .int l4)]) (st' := [.ref 83, .ref 83]) (by decide +kernel) rfl rfl ?_
  refine ab_fin.q_rI (x := (σ.i 83 6)) (ix := 80) (ci := 5) (k := 6) (pc' := 89) (by decide +kernel) rfl (c_rI (F.s t0_83) rfl) rfl ?_
  refine ab_fin.s1i (i := .iconst 2) (k := 1) (pc' := 90) (n := 2) (by decide +kernel) rfl (by decide +kernel) rfl ?_
  refine ab_fin.q_yI (i := .invokevirtual 218) (k := 3) (y := 1041) (As := [.ref 83, .int (σ.i 83 6), .int 2]) (rest := []) (M' := (mX4_inFrame, [])) (lv2 := [(0, .ref 83), (1, .int (σ.i 83 6)), (2, .int 2)]) (pc' := 93) (X := K) (by decide +kernel) (ab_cv rfl rfl (conc_get (σ := σ) (F.s t0_83)) ⟨(Nat.le_of_ble_eq_true rfl), (Nat.le_of_ble_eq_true rfl)⟩ rfl) rfl (Nat.le_of_ble_eq_true rfl) rfl rfl (hY_no fun E => rfl) w (fun v4 τ2 F3 w => ?_)
  refine ab_fin.s2 (i := .istore 6) (k := 2) (pc' := 95) (lv' := [(6, .int v4), (5, .int (σ.i 12 l3.toNatClampNeg)), (0, .ref 83), (3, .int l3), (4, .int l4)]) (st' := []) (by decide +kernel) rfl rfl ?_
  refine ab_fin.s2 (i := .aload_n 0) (k := 1) (pc' := 96) (lv' := [(6, .int v4), (5, .int (σ.i 12 l3.toNatClampNeg)), (0, .ref 83), (3, .int l3), (4, .int l4)]) (st' := [.ref 83]) (by decide +kernel) rfl rfl ?_
  refine ab_fin.s2 (i := .aload_n 0) (k := 1) (pc' := 97) (lv' := [(6, .int v4), (5, .int (σ.i 12 l3.toNatClampNeg)), (0, .ref 83), (3, .int l3), (4, .int l4)]) (st' := [.ref 83, .ref 83]) (by decide +kernel) rfl rfl ?_
  refine ab_fin.q_rI (x := (τ2.i 83 6)) (ix := 80) (ci := 5) (k := 6) (pc' := 100) (by decide +kernel) rfl (c_rI (F3.s t0_83) rfl) rfl ?_
  refine ab_fin.s1i (i := .iconst 3) (k := 1) (pc' := 101) (n := 3) (by decide +kernel) rfl (by decide +kernel) rfl ?_
  refine ab_fin.q_yI (i := .invokevirtual 218) (k := 3) (y := 1041) (As := [.ref 83, .int (τ2.i 83 6), .int 3]) (rest := []) (M' := (mX4_inFrame, [])) (lv2 := [(0, .ref 83), (1, .int (τ2.i 83 6)), (2, .int 3)]) (pc' := 104) (X := K) (by decide +kernel) (ab_cv rfl rfl (conc_get (σ := τ2) (F3.s t0_83)) ⟨(Nat.le_of_ble_eq_true rfl), (Nat.le_of_ble_eq_true rfl)⟩ rfl) rfl (Nat.le_of_ble_eq_true rfl) rfl rfl (hY_no fun E => rfl) w (fun v7 τ5 F6 w => ?_)
  refine ab_fin.s1i (i := .iconst 1) (k := 1) (pc' := 105) (n := 1) (by decide +kernel) rfl (by decide +kernel) rfl ?_
  refine ab_fin.s1 (i := .iadd) (k := 1) (pc' := 106) (st' := [.int (v7 + (1 : Int32))]) (by decide +kernel) rfl rfl ?_
  refine ab_fin.s2 (i := .istore 7) (k := 2) (pc' := 108) (lv' := [(7, .int (v7 + (1 : Int32))), (6, .int v4), (5, .int (σ.i 12 l3.toNatClampNeg)), (0, .ref 83), (3, .int l3), (4, .int l4)]) (st' := []) (by decide +kernel) rfl rfl ?_
  refine ab_fin.s2 (i := .iload 5) (k := 2) (pc' := 110) (lv' := [(7, .int (v7 + (1 : Int32))), (6, .int v4), (5, .int (σ.i 12 l3.toNatClampNeg)), (0, .ref 83), (3, .int l3), (4, .int l4)]) (st' := [.int (σ.i 12 l3.toNatClampNeg)]) (by decide +kernel) rfl rfl ?_
  refine ab_fin.s1i (i := .iconst 1) (k := 1) (pc' := 111) (n := 1) (by decide +kernel) rfl (by decide +kernel) rfl ?_
  refine ab_fin.br (c := (σ.i 12 l3.toNatClampNeg) = 1) (i := .if_icmp .eq 29) (off := 29) (t := 140) (pc' := 114) (r := []) (by decide +kernel) rfl (by decide +kernel) rfl (fun q => ?_) (fun q => ?_)
  · replace w := w.1 q
    exact ab_fin.lv ⟨(List.forall_mem_cons.mpr ⟨(List.Mem.tail _ (List.Mem.tail _ (List.Mem.tail _ (List.Mem.head _)))), (List.forall_mem_cons.mpr ⟨(List.Mem.tail _ (List.Mem.tail _ (List.Mem.head _))), (List.forall_mem_cons.mpr ⟨(List.Mem.tail _ (List.Mem.head _)), (List.forall_mem_cons.mpr ⟨(List.Mem.head _), (fun _ h => absurd h List.not_mem_nil)⟩)⟩)⟩)⟩), (show ([7, 6, 5, 0, 3, 4] : List Nat).Nodup from by decide)⟩ w
  · replace w := w.2 q
    refine ab_fin.s2 (i := .iload 5) (k := 2) (pc' := 116) (lv' := [(7, .int (v7 + (1 : Int32))), (6, .int v4), (5, .int (σ.i 12 l3.toNatClampNeg)), (0, .ref 83), (3, .int l3), (4, .int l4)]) (st' := [.int (σ.i 12 l3.toNatClampNeg)]) (by decide +kernel) rfl rfl ?_
    refine ab_fin.br (c := ¬ (σ.i 12 l3.toNatClampNeg) = 0) (i := .ifCond .ne 16) (off := 16) (t := 132) (pc' := 119) (r := []) (by decide +kernel) rfl (by decide +kernel) rfl (fun q => ?_) (fun q => ?_)
    · replace w := w.1 q
      refine ab_fin.s2 (i := .aload_n 0) (k := 1) (pc' := 133) (lv' := [(7, .int (v7 + (1 : Int32))), (6, .int v4), (5, .int (σ.i 12 l3.toNatClampNeg)), (0, .ref 83), (3, .int l3), (4, .int l4)]) (st' := [.ref 83]) (by decide +kernel) rfl rfl ?_
      refine ab_fin.s1i (i := .iconst 1) (k := 1) (pc' := 134) (n := 1) (by decide +kernel) rfl (by decide +kernel) rfl ?_
      refine ab_fin.q_pF (ix := 115) (ci := 5) (k := 9) (h1 := conc (τ5.wi 83 9 (1 : Int32))) (pc' := 137) (by decide +kernel) rfl (c_pI (v := 1) (F6.s t0_83) rfl) rfl rfl rfl ?_
      refine ab_fin.s3 (i := .goto 82) (k := 3) (t := 219) (st' := []) (by decide +kernel) (ab_gto (by decide +kernel)) ?_
      exact ab_fin.q_ret (i := .return_) (k := 1) (v := none) (by decide +kernel) rfl F6 w
    · replace w := w.2 (Decidable.of_not_not q)
      refine ab_fin.s2 (i := .aload_n 0) (k := 1) (pc' := 120) (lv' := [(7, .int (v7 + (1 : Int32))), (6, .int v4), (5, .int (σ.i 12 l3.toNatClampNeg)), (0, .ref 83), (3, .int l3), (4, .int l4)]) (st' := [.ref 83]) (by decide +kernel) rfl rfl ?_
      refine ab_fin.q_rA (b := 1) (ix := 32) (ci := 5) (k := 0) (pc' := 123) (by decide +kernel) rfl (c_rA (F6.s t0_83) rfl (rC_5_0 F6 t0_83)) rfl ?_
      refine ab_fin.q_rA (b := 32) (ix := 227) (ci := 12) (k := 7) (pc' := 126) (by decide +kernel) rfl (c_rA (F6.s t0_1) rfl (rC_12_7 F6 t0_1)) rfl ?_
      refine ab_fin.s2 (i := .iload 4) (k := 2) (pc' := 128) (lv' := [(7, .int (v7 + (1 : Int32))), (6, .int v4), (5, .int (σ.i 12 l3.toNatClampNeg)), (0, .ref 83), (3, .int l3), (4, .int l4)]) (st' := [.int l4, .ref 32]) (by decide +kernel) rfl rfl ?_
      obtain ⟨e8, w⟩ := w
      refine ab_fin.q_eI (x := (τ5.i 32 l4.toNatClampNeg)) (pc' := 129) (by decide +kernel) (c_eI' (F6.s t0_32) e8 rfl) rfl ?_
      refine ab_fin.br (c := (τ5.i 32 l4.toNatClampNeg) = 0) (i := .ifCond .eq 11) (off := 11) (t := 140) (pc' := 132) (r := []) (by decide +kernel) rfl (by decide +kernel) rfl (fun q => ?_) (fun q => ?_)
      · replace w := w.1 q
        exact ab_fin.lv ⟨(List.forall_mem_cons.mpr ⟨(List.Mem.tail _ (List.Mem.tail _ (List.Mem.tail _ (List.Mem.head _)))), (List.forall_mem_cons.mpr ⟨(List.Mem.tail _ (List.Mem.tail _ (List.Mem.head _))), (List.forall_mem_cons.mpr ⟨(List.Mem.tail _ (List.Mem.head _)), (List.forall_mem_cons.mpr ⟨(List.Mem.head _), (fun _ h => absurd h List.not_mem_nil)⟩)⟩)⟩)⟩), (show ([7, 6, 5, 0, 3, 4] : List Nat).Nodup from by decide)⟩ w
      · replace w := w.2 q
        refine ab_fin.s2 (i := .aload_n 0) (k := 1) (pc' := 133) (lv' := [(7, .int (v7 + (1 : Int32))), (6, .int v4), (5, .int (σ.i 12 l3.toNatClampNeg)), (0, .ref 83), (3, .int l3), (4, .int l4)]) (st' := [.ref 83]) (by decide +kernel) rfl rfl ?_
        refine ab_fin.s1i (i := .iconst 1) (k := 1) (pc' := 134) (n := 1) (by decide +kernel) rfl (by decide +kernel) rfl ?_
        refine ab_fin.q_pF (ix := 115) (ci := 5) (k := 9) (h1 := conc (τ5.wi 83 9 (1 : Int32))) (pc' := 137) (by decide +kernel) rfl (c_pI (v := 1) (F6.s t0_83) rfl) rfl rfl rfl ?_
        refine ab_fin.s3 (i := .goto 82) (k := 3) (t := 219) (st' := []) (by decide +kernel) (ab_gto (by decide +kernel)) ?_
        exact ab_fin.q_ret (i := .return_) (k := 1) (v := none) (by decide +kernel) rfl F6 w
theorem T_X4_goToNext_140 {Z : zT} {d : Nat} {σ : Sg} {l5 : Int32} {l6 : Int32} {l7 : Int32} {K : kS} (F : FX ΦC σ.sh σ.r) (w : C_X0_rowSize_0 Z d σ l6 l5 (yI K fun v3 τ1 => (v3 ≤ l7 → C_X0_endsWithSeveral_0 Z d τ1 l6 l5 (yI K fun v6 τ4 => (v6 = 0 → (¬ l5 = 0 → C_X4_beginInside_0 Z d τ4 l6 (τ4.i 83 7) (yN K fun τ7 => K (.inl none) τ7)) ∧ (l5 = 0 → K (.inl none) (τ4.wi 83 9 (1 : Int32)))) ∧ (¬ v6 = 0 → K (.inl none) (τ4.wi 83 9 (2 : Int32))))) ∧ (¬ v3 ≤ l7 → C_X4_beginMethod_0 Z d τ1 l6 l5 l7 (τ1.i 83 7) 0 (yN K fun τ9 => K (.inl none) τ9)))) : C_X4_goToNext_140 Z (d + 1) σ l5 l6 l7 K := by
  unfold C_X4_goToNext_140
  refine ab_fin.s2 (i := .iload 7) (k := 2) (pc' := 142) (lv' := [(0, .ref 83), (5, .int l5), (6, .int l6), (7, .int l7)]) (st' := [.int l7]) (by decide +kernel) rfl rfl ?_
  refine ab_fin.s2 (i := .aload_n 0) (k := 1) (pc' := 143) (lv' := [(0, .ref 83), (5, .int l5), (6, .int l6), (7, .int l7)]) (st' := [.ref 83, .int l7]) (by decide +kernel) rfl rfl ?_
  refine ab_fin.q_rA (b := 84) (ix := 36) (ci := 5) (k := 1) (pc' := 146) (by decide +kernel) rfl (c_rA (F.s t0_83) rfl (rC_5_1 F t0_83)) rfl ?_
  refine ab_fin.s2 (i := .iload 6) (k := 2) (pc' := 148) (lv' := [(0, .ref 83), (5, .int l5), (6, .int l6), (7, .int l7)]) (st' := [.int l6, .ref 84, .int l7]) (by decide +kernel) rfl rfl ?_
  refine ab_fin.s2 (i := .iload 5) (k := 2) (pc' := 150) (lv' := [(0, .ref 83), (5, .int l5), (6, .int l6), (7, .int l7)]) (st' := [.int l5, .int l6, .ref 84, .int l7]) (by decide +kernel) rfl rfl ?_
  refine ab_fin.q_yI (i := .invokevirtual 186) (k := 3) (y := 1) (As := [.ref 84, .int l6, .int l5]) (rest := [.int l7]) (M' := (mX0_rowSize, [])) (lv2 := [(0, .ref 84), (1, .int l6), (2, .int l5)]) (pc' := 153) (X := K) (by decide +kernel) (ab_cv rfl rfl (conc_get (σ := σ) (F.s t0_84)) ⟨(Nat.le_of_ble_eq_true rfl), (Nat.le_of_ble_eq_true rfl)⟩ rfl) rfl (Nat.le_of_ble_eq_true rfl) rfl rfl (hY_no fun E => rfl) w (fun v3 τ1 F2 w => ?_)
  refine ab_fin.br (c := v3 ≤ l7) (i := .if_icmp .ge 21) (off := 21) (t := 174) (pc' := 156) (r := []) (by decide +kernel) rfl (by decide +kernel) rfl (fun q => ?_) (fun q => ?_)
  · replace w := w.1 q
    refine ab_fin.s2 (i := .aload_n 0) (k := 1) (pc' := 175) (lv' := [(0, .ref 83), (5, .int l5), (6, .int l6), (7, .int l7)]) (st' := [.ref 83]) (by decide +kernel) rfl rfl ?_
    refine ab_fin.q_rA (b := 84) (ix := 36) (ci := 5) (k := 1) (pc' := 178) (by decide +kernel) rfl (c_rA (F2.s t0_83) rfl (rC_5_1 F2 t0_83)) rfl ?_
    refine ab_fin.s2 (i := .iload 6) (k := 2) (pc' := 180) (lv' := [(0, .ref 83), (5, .int l5), (6, .int l6), (7, .int l7)]) (st' := [.int l6, .ref 84]) (by decide +kernel) rfl rfl ?_
    refine ab_fin.s2 (i := .iload 5) (k := 2) (pc' := 182) (lv' := [(0, .ref 83), (5, .int l5), (6, .int l6), (7, .int l7)]) (st' := [.int l5, .int l6, .ref 84]) (by decide +kernel) rfl rfl ?_
    refine ab_fin.q_yI (i := .invokevirtual 194) (k := 3) (y := 2) (As := [.ref 84, .int l6, .int l5]) (rest := []) (M' := (mX0_endsWithSeveral, [])) (lv2 := [(0, .ref 84), (1, .int l6), (2, .int l5)]) (pc' := 185) (X := K) (by decide +kernel) (ab_cv rfl rfl (conc_get (σ := τ1) (F2.s t0_84)) ⟨(Nat.le_of_ble_eq_true rfl), (Nat.le_of_ble_eq_true rfl)⟩ rfl) rfl (Nat.le_of_ble_eq_true rfl) rfl rfl (hY_no fun E => rfl) w (fun v6 τ4 F5 w => ?_)
    refine ab_fin.br (c := v6 = 0) (i := .ifCond .eq 11) (off := 11) (t := 196) (pc' := 188) (r := []) (by decide +kernel) rfl (by decide +kernel) rfl (fun q => ?_) (fun q => ?_)
    · replace w := w.1 q
      refine ab_fin.s2 (i := .iload 5) (k := 2) (pc' := 198) (lv' := [(0, .ref 83), (5, .int l5), (6, .int l6), (7, .int l7)]) (st' := [.int l5]) (by decide +kernel) rfl rfl ?_
      refine ab_fin.br (c := ¬ l5 = 0) (i := .ifCond .ne 11) (off := 11) (t := 209) (pc' := 201) (r := []) (by decide +kernel) rfl (by decide +kernel) rfl (fun q => ?_) (fun q => ?_)
      · replace w := w.1 q
        refine ab_fin.s2 (i := .aload_n 0) (k := 1) (pc' := 210) (lv' := [(0, .ref 83), (5, .int l5), (6, .int l6), (7, .int l7)]) (st' := [.ref 83]) (by decide +kernel) rfl rfl ?_
        refine ab_fin.s2 (i := .iload 6) (k := 2) (pc' := 212) (lv' := [(0, .ref 83), (5, .int l5), (6, .int l6), (7, .int l7)]) (st' := [.int l6, .ref 83]) (by decide +kernel) rfl rfl ?_
        refine ab_fin.s2 (i := .aload_n 0) (k := 1) (pc' := 213) (lv' := [(0, .ref 83), (5, .int l5), (6, .int l6), (7, .int l7)]) (st' := [.ref 83, .int l6, .ref 83]) (by decide +kernel) rfl rfl ?_
        refine ab_fin.q_rI (x := (τ4.i 83 7)) (ix := 53) (ci := 5) (k := 7) (pc' := 216) (by decide +kernel) rfl (c_rI (F5.s t0_83) rfl) rfl ?_
        refine ab_fin.q_yN (i := .invokevirtual 197) (k := 3) (y := 1045) (As := [.ref 83, .int l6, .int (τ4.i 83 7)]) (rest := []) (M' := (mX4_beginInside, [])) (lv2 := [(0, .ref 83), (1, .int l6), (2, .int (τ4.i 83 7))]) (pc' := 219) (X := K) (by decide +kernel) (ab_cv rfl rfl (conc_get (σ := τ4) (F5.s t0_83)) ⟨(Nat.le_of_ble_eq_true rfl), (Nat.le_of_ble_eq_true rfl)⟩ rfl) rfl (Nat.le_of_ble_eq_true rfl) rfl rfl (hY_no fun E => rfl) w (fun τ7 F8 w => ?_)
        exact ab_fin.q_ret (i := .return_) (k := 1) (v := none) (by decide +kernel) rfl F8 w
      · replace w := w.2 (Decidable.of_not_not q)
        refine ab_fin.s2 (i := .aload_n 0) (k := 1) (pc' := 202) (lv' := [(0, .ref 83), (5, .int l5), (6, .int l6), (7, .int l7)]) (st' := [.ref 83]) (by decide +kernel) rfl rfl ?_
        refine ab_fin.s1i (i := .iconst 1) (k := 1) (pc' := 203) (n := 1) (by decide +kernel) rfl (by decide +kernel) rfl ?_
        refine ab_fin.q_pF (ix := 115) (ci := 5) (k := 9) (h1 := conc (τ4.wi 83 9 (1 : Int32))) (pc' := 206) (by decide +kernel) rfl (c_pI (v := 1) (F5.s t0_83) rfl) rfl rfl rfl ?_
        refine ab_fin.s3 (i := .goto 13) (k := 3) (t := 219) (st' := []) (by decide +kernel) (ab_gto (by decide +kernel)) ?_
        exact ab_fin.q_ret (i := .return_) (k := 1) (v := none) (by decide +kernel) rfl F5 w
    · replace w := w.2 q
      refine ab_fin.s2 (i := .aload_n 0) (k := 1) (pc' := 189) (lv' := [(0, .ref 83), (5, .int l5), (6, .int l6), (7, .int l7)]) (st' := [.ref 83]) (by decide +kernel) rfl rfl ?_
      refine ab_fin.s1i (i := .iconst 2) (k := 1) (pc' := 190) (n := 2) (by decide +kernel) rfl (by decide +kernel) rfl ?_
      refine ab_fin.q_pF (ix := 115) (ci := 5) (k := 9) (h1 := conc (τ4.wi 83 9 (2 : Int32))) (pc' := 193) (by decide +kernel) rfl (c_pI (v := 2) (F5.s t0_83) rfl) rfl rfl rfl ?_
      refine ab_fin.s3 (i := .goto 26) (k := 3) (t := 219) (st' := []) (by decide +kernel) (ab_gto (by decide +kernel)) ?_
      exact ab_fin.q_ret (i := .return_) (k := 1) (v := none) (by decide +kernel) rfl F5 w
  · replace w := w.2 q
    refine ab_fin.s2 (i := .aload_n 0) (k := 1) (pc' := 157) (lv' := [(0, .ref 83), (5, .int l5), (6, .int l6), (7, .int l7)]) (st' := [.ref 83]) (by decide +kernel) rfl rfl ?_
    refine ab_fin.s2 (i := .iload 6) (k := 2) (pc' := 159) (lv' := [(0, .ref 83), (5, .int l5), (6, .int l6), (7, .int l7)]) (st' := [.int l6, .ref 83]) (by decide +kernel) rfl rfl ?_
    refine ab_fin.s2 (i := .iload 5) (k := 2) (pc' := 161) (lv' := [(0, .ref 83), (5, .int l5), (6, .int l6), (7, .int l7)]) (st' := [.int l5, .int l6, .ref 83]) (by decide +kernel) rfl rfl ?_
    refine ab_fin.s2 (i := .iload 7) (k := 2) (pc' := 163) (lv' := [(0, .ref 83), (5, .int l5), (6, .int l6), (7, .int l7)]) (st' := [.int l7, .int l5, .int l6, .ref 83]) (by decide +kernel) rfl rfl ?_
    refine ab_fin.s2 (i := .aload_n 0) (k := 1) (pc' := 164) (lv' := [(0, .ref 83), (5, .int l5), (6, .int l6), (7, .int l7)]) (st' := [.ref 83, .int l7, .int l5, .int l6, .ref 83]) (by decide +kernel) rfl rfl ?_
    refine ab_fin.q_rI (x := (τ1.i 83 7)) (ix := 53) (ci := 5) (k := 7) (pc' := 167) (by decide +kernel) rfl (c_rI (F2.s t0_83) rfl) rfl ?_
    refine ab_fin.s1i (i := .iconst 0) (k := 1) (pc' := 168) (n := 0) (by decide +kernel) rfl (by decide +kernel) rfl ?_
    refine ab_fin.q_yN (i := .invokevirtual 190) (k := 3) (y := 1043) (As := [.ref 83, .int l6, .int l5, .int l7, .int (τ1.i 83 7), .int 0]) (rest := []) (M' := (mX4_beginMethod, [])) (lv2 := [(0, .ref 83), (1, .int l6), (2, .int l5), (3, .int l7), (4, .int (τ1.i 83 7)), (5, .int 0)]) (pc' := 171) (X := K) (by decide +kernel) (ab_cv rfl rfl (conc_get (σ := τ1) (F2.s t0_83)) ⟨(Nat.le_of_ble_eq_true rfl), (Nat.le_of_ble_eq_true rfl)⟩ rfl) rfl (Nat.le_of_ble_eq_true rfl) rfl rfl (hY_no fun E => rfl) w (fun τ9 F10 w => ?_)
    refine ab_fin.s3 (i := .goto 48) (k := 3) (t := 219) (st' := []) (by decide +kernel) (ab_gto (by decide +kernel)) ?_
    exact ab_fin.q_ret (i := .return_) (k := 1) (v := none) (by decide +kernel) rfl F10 w
theorem T_X4_beginInside_0 {Z : zT} {d : Nat} {σ : Sg} {l1 : Int32} {l2 : Int32} {K : kS} (F : FX ΦC σ.sh σ.r) (w : C_X0_rowSize_0 Z d σ l1 0 (yI K fun v3 τ1 => (¬ v3 = 0 → C_X0_inRow_0 Z d τ1 l1 0 0 (yI K fun v6 τ4 => ib v6 122 ∧ (ib (τ4.i 11 v6.toNatClampNeg) 24 ∧ (ib ((((τ1.i 83 6) + (1 : Int32)) * (32 : Int32)) + (0 : Int32)) 832 ∧ (ib ((((τ1.i 83 6) + (1 : Int32)) * (32 : Int32)) + (2 : Int32)) 832 ∧ (ib ((((τ1.i 83 6) + (1 : Int32)) * (32 : Int32)) + (5 : Int32)) 832 ∧ (ib ((((τ1.i 83 6) + (1 : Int32)) * (32 : Int32)) + (6 : Int32)) 832 ∧ ((¬ (τ4.i 32 ((τ4.i 11 v6.toNatClampNeg).toNatClampNeg)) = 4 → (¬ (τ4.i 32 ((τ4.i 11 v6.toNatClampNeg).toNatClampNeg)) = 2 → C_X4_beginInside_131 Z (d + 1) ((((τ4.wl 94 (((((τ1.i 83 6) + (1 : Int32)) * (32 : Int32)) + (0 : Int32)).toNatClampNeg) ((Int32.toInt64 l2))).wl 94 (((((τ1.i 83 6) + (1 : Int32)) * (32 : Int32)) + (2 : Int32)).toNatClampNeg) ((Int32.toInt64 l1))).wl 94 (((((τ1.i 83 6) + (1 : Int32)) * (32 : Int32)) + (5 : Int32)).toNatClampNeg) (2 : Int64)).wl 94 (((((τ1.i 83 6) + (1 : Int32)) * (32 : Int32)) + (6 : Int32)).toNatClampNeg) (0 : Int64)) (((τ1.i 83 6) + (1 : Int32)) * (32 : Int32)) ((((τ1.i 83 6) + (1 : Int32)) * (32 : Int32)) + (7 : Int32)) 1 0 K) ∧ ((τ4.i 32 ((τ4.i 11 v6.toNatClampNeg).toNatClampNeg)) = 2 → C_X4_beginInside_131 Z (d + 1) ((((τ4.wl 94 (((((τ1.i 83 6) + (1 : Int32)) * (32 : Int32)) + (0 : Int32)).toNatClampNeg) ((Int32.toInt64 l2))).wl 94 (((((τ1.i 83 6) + (1 : Int32)) * (32 : Int32)) + (2 : Int32)).toNatClampNeg) ((Int32.toInt64 l1))).wl 94 (((((τ1.i 83 6) + (1 : Int32)) * (32 : Int32)) + (5 : Int32)).toNatClampNeg) (2 : Int64)).wl 94 (((((τ1.i 83 6) + (1 : Int32)) * (32 : Int32)) + (6 : Int32)).toNatClampNeg) (0 : Int64)) (((τ1.i 83 6) + (1 : Int32)) * (32 : Int32)) ((((τ1.i 83 6) + (1 : Int32)) * (32 : Int32)) + (7 : Int32)) 1 1 K)) ∧ ((τ4.i 32 ((τ4.i 11 v6.toNatClampNeg).toNatClampNeg)) = 4 → C_X4_beginInside_131 Z (d + 1) ((((τ4.wl 94 (((((τ1.i 83 6) + (1 : Int32)) * (32 : Int32)) + (0 : Int32)).toNatClampNeg) ((Int32.toInt64 l2))).wl 94 (((((τ1.i 83 6) + (1 : Int32)) * (32 : Int32)) + (2 : Int32)).toNatClampNeg) ((Int32.toInt64 l1))).wl 94 (((((τ1.i 83 6) + (1 : Int32)) * (32 : Int32)) + (5 : Int32)).toNatClampNeg) (2 : Int64)).wl 94 (((((τ1.i 83 6) + (1 : Int32)) * (32 : Int32)) + (6 : Int32)).toNatClampNeg) (0 : Int64)) (((τ1.i 83 6) + (1 : Int32)) * (32 : Int32)) ((((τ1.i 83 6) + (1 : Int32)) * (32 : Int32)) + (7 : Int32)) 1 2147483647 K))))))))) ∧ (v3 = 0 → K (.inl none) (τ1.wi 83 9 (2 : Int32))))) : C_X4_beginInside_0 Z (d + 1) σ l1 l2 K := by
  unfold C_X4_beginInside_0
  refine ab_fin.s2 (i := .aload_n 0) (k := 1) (pc' := 1) (lv' := [(0, .ref 83), (1, .int l1), (2, .int l2)]) (st' := [.ref 83]) (by decide +kernel) rfl rfl ?_
  refine ab_fin.q_rA (b := 84) (ix := 36) (ci := 5) (k := 1) (pc' := 4) (by decide +kernel) rfl (c_rA (F.s t0_83) rfl (rC_5_1 F t0_83)) rfl ?_
  refine ab_fin.s2 (i := .iload_n 1) (k := 1) (pc' := 5) (lv' := [(0, .ref 83), (1, .int l1), (2, .int l2)]) (st' := [.int l1, .ref 84]) (by decide +kernel) rfl rfl ?_
  refine ab_fin.s1i (i := .iconst 0) (k := 1) (pc' := 6) (n := 0) (by decide +kernel) rfl (by decide +kernel) rfl ?_
  refine ab_fin.q_yI (i := .invokevirtual 186) (k := 3) (y := 1) (As := [.ref 84, .int l1, .int 0]) (rest := []) (M' := (mX0_rowSize, [])) (lv2 := [(0, .ref 84), (1, .int l1), (2, .int 0)]) (pc' := 9) (X := K) (by decide +kernel) (ab_cv rfl rfl (conc_get (σ := σ) (F.s t0_84)) ⟨(Nat.le_of_ble_eq_true rfl), (Nat.le_of_ble_eq_true rfl)⟩ rfl) rfl (Nat.le_of_ble_eq_true rfl) rfl rfl (hY_no fun E => rfl) w (fun v3 τ1 F2 w => ?_)
  refine ab_fin.br (c := ¬ v3 = 0) (i := .ifCond .ne 9) (off := 9) (t := 18) (pc' := 12) (r := []) (by decide +kernel) rfl (by decide +kernel) rfl (fun q => ?_) (fun q => ?_)
  · replace w := w.1 q
    refine ab_fin.s2 (i := .aload_n 0) (k := 1) (pc' := 19) (lv' := [(0, .ref 83), (1, .int l1), (2, .int l2)]) (st' := [.ref 83]) (by decide +kernel) rfl rfl ?_
    refine ab_fin.q_rI (x := (τ1.i 83 6)) (ix := 80) (ci := 5) (k := 6) (pc' := 22) (by decide +kernel) rfl (c_rI (F2.s t0_83) rfl) rfl ?_
    refine ab_fin.s1i (i := .iconst 1) (k := 1) (pc' := 23) (n := 1) (by decide +kernel) rfl (by decide +kernel) rfl ?_
    refine ab_fin.s1 (i := .iadd) (k := 1) (pc' := 24) (st' := [.int ((τ1.i 83 6) + (1 : Int32))]) (by decide +kernel) rfl rfl ?_
    refine ab_fin.s1i (i := .bipush 32) (k := 2) (pc' := 26) (n := 32) (by decide +kernel) rfl (by decide +kernel) rfl ?_
    refine ab_fin.s1 (i := .imul) (k := 1) (pc' := 27) (st' := [.int (((τ1.i 83 6) + (1 : Int32)) * (32 : Int32))]) (by decide +kernel) rfl rfl ?_
    refine ab_fin.s2 (i := .istore_n 3) (k := 1) (pc' := 28) (lv' := [(3, .int (((τ1.i 83 6) + (1 : Int32)) * (32 : Int32))), (0, .ref 83), (1, .int l1), (2, .int l2)]) (st' := []) (by decide +kernel) rfl rfl ?_
    refine ab_fin.s2 (i := .aload_n 0) (k := 1) (pc' := 29) (lv' := [(3, .int (((τ1.i 83 6) + (1 : Int32)) * (32 : Int32))), (0, .ref 83), (1, .int l1), (2, .int l2)]) (st' := [.ref 83]) (by decide +kernel) rfl rfl ?_
    refine ab_fin.q_rA (b := 1) (ix := 32) (ci := 5) (k := 0) (pc' := 32) (by decide +kernel) rfl (c_rA (F2.s t0_83) rfl (rC_5_0 F2 t0_83)) rfl ?_
    refine ab_fin.q_rA (b := 32) (ix := 227) (ci := 12) (k := 7) (pc' := 35) (by decide +kernel) rfl (c_rA (F2.s t0_1) rfl (rC_12_7 F2 t0_1)) rfl ?_
    refine ab_fin.s2 (i := .aload_n 0) (k := 1) (pc' := 36) (lv' := [(3, .int (((τ1.i 83 6) + (1 : Int32)) * (32 : Int32))), (0, .ref 83), (1, .int l1), (2, .int l2)]) (st' := [.ref 83, .ref 32]) (by decide +kernel) rfl rfl ?_
    refine ab_fin.q_rA (b := 1) (ix := 32) (ci := 5) (k := 0) (pc' := 39) (by decide +kernel) rfl (c_rA (F2.s t0_83) rfl (rC_5_0 F2 t0_83)) rfl ?_
    refine ab_fin.q_rA (b := 10) (ix := 209) (ci := 12) (k := 1) (pc' := 42) (by decide +kernel) rfl (c_rA (F2.s t0_1) rfl (rC_12_1 F2 t0_1)) rfl ?_
    refine ab_fin.q_rA (b := 11) (ix := 221) (ci := 6) (k := 1) (pc' := 45) (by decide +kernel) rfl (c_rA (F2.s t0_10) rfl (rC_6_1 F2 t0_10)) rfl ?_
    refine ab_fin.s2 (i := .aload_n 0) (k := 1) (pc' := 46) (lv' := [(3, .int (((τ1.i 83 6) + (1 : Int32)) * (32 : Int32))), (0, .ref 83), (1, .int l1), (2, .int l2)]) (st' := [.ref 83, .ref 11, .ref 32]) (by decide +kernel) rfl rfl ?_
    refine ab_fin.q_rA (b := 84) (ix := 36) (ci := 5) (k := 1) (pc' := 49) (by decide +kernel) rfl (c_rA (F2.s t0_83) rfl (rC_5_1 F2 t0_83)) rfl ?_
    refine ab_fin.s2 (i := .iload_n 1) (k := 1) (pc' := 50) (lv' := [(3, .int (((τ1.i 83 6) + (1 : Int32)) * (32 : Int32))), (0, .ref 83), (1, .int l1), (2, .int l2)]) (st' := [.int l1, .ref 84, .ref 11, .ref 32]) (by decide +kernel) rfl rfl ?_
    refine ab_fin.s1i (i := .iconst 0) (k := 1) (pc' := 51) (n := 0) (by decide +kernel) rfl (by decide +kernel) rfl ?_
    refine ab_fin.s1i (i := .iconst 0) (k := 1) (pc' := 52) (n := 0) (by decide +kernel) rfl (by decide +kernel) rfl ?_
    refine ab_fin.q_yI (i := .invokevirtual 200) (k := 3) (y := 3) (As := [.ref 84, .int l1, .int 0, .int 0]) (rest := [.ref 11, .ref 32]) (M' := (mX0_inRow, [])) (lv2 := [(0, .ref 84), (1, .int l1), (2, .int 0), (3, .int 0)]) (pc' := 55) (X := K) (by decide +kernel) (ab_cv rfl rfl (conc_get (σ := τ1) (F2.s t0_84)) ⟨(Nat.le_of_ble_eq_true rfl), (Nat.le_of_ble_eq_true rfl)⟩ rfl) rfl (Nat.le_of_ble_eq_true rfl) rfl rfl (hY_no fun E => rfl) w (fun v6 τ4 F5 w => ?_)
    obtain ⟨e7, w⟩ := w
    refine ab_fin.q_eI (x := (τ4.i 11 v6.toNatClampNeg)) (pc' := 56) (by decide +kernel) (c_eI' (F5.s t0_11) e7 rfl) rfl ?_
    obtain ⟨e8, w⟩ := w
    refine ab_fin.q_eI (x := (τ4.i 32 ((τ4.i 11 v6.toNatClampNeg).toNatClampNeg))) (pc' := 57) (by decide +kernel) (c_eI' (F5.s t0_32) e8 rfl) rfl ?_
    refine ab_fin.s2 (i := .istore 4) (k := 2) (pc' := 59) (lv' := [(4, .int (τ4.i 32 ((τ4.i 11 v6.toNatClampNeg).toNatClampNeg))), (3, .int (((τ1.i 83 6) + (1 : Int32)) * (32 : Int32))), (0, .ref 83), (1, .int l1), (2, .int l2)]) (st' := []) (by decide +kernel) rfl rfl ?_
    refine ab_fin.s2 (i := .aload_n 0) (k := 1) (pc' := 60) (lv' := [(4, .int (τ4.i 32 ((τ4.i 11 v6.toNatClampNeg).toNatClampNeg))), (3, .int (((τ1.i 83 6) + (1 : Int32)) * (32 : Int32))), (0, .ref 83), (1, .int l1), (2, .int l2)]) (st' := [.ref 83]) (by decide +kernel) rfl rfl ?_
    refine ab_fin.q_rA (b := 94) (ix := 15) (ci := 5) (k := 3) (pc' := 63) (by decide +kernel) rfl (c_rA (F5.s t0_83) rfl (rC_5_3 F5 t0_83)) rfl ?_
    refine ab_fin.s2 (i := .iload_n 3) (k := 1) (pc' := 64) (lv' := [(4, .int (τ4.i 32 ((τ4.i 11 v6.toNatClampNeg).toNatClampNeg))), (3, .int (((τ1.i 83 6) + (1 : Int32)) * (32 : Int32))), (0, .ref 83), (1, .int l1), (2, .int l2)]) (st' := [.int (((τ1.i 83 6) + (1 : Int32)) * (32 : Int32)), .ref 94]) (by decide +kernel) rfl rfl ?_
    refine ab_fin.s1i (i := .iconst 0) (k := 1) (pc' := 65) (n := 0) (by decide +kernel) rfl (by decide +kernel) rfl ?_
    refine ab_fin.s1 (i := .iadd) (k := 1) (pc' := 66) (st' := [.int ((((τ1.i 83 6) + (1 : Int32)) * (32 : Int32)) + (0 : Int32)), .ref 94]) (by decide +kernel) rfl rfl ?_
    refine ab_fin.s2 (i := .iload_n 2) (k := 1) (pc' := 67) (lv' := [(4, .int (τ4.i 32 ((τ4.i 11 v6.toNatClampNeg).toNatClampNeg))), (3, .int (((τ1.i 83 6) + (1 : Int32)) * (32 : Int32))), (0, .ref 83), (1, .int l1), (2, .int l2)]) (st' := [.int l2, .int ((((τ1.i 83 6) + (1 : Int32)) * (32 : Int32)) + (0 : Int32)), .ref 94]) (by decide +kernel) rfl rfl ?_
    refine ab_fin.s1 (i := .i2l) (k := 1) (pc' := 68) (st' := [.long ((Int32.toInt64 l2)), .int ((((τ1.i 83 6) + (1 : Int32)) * (32 : Int32)) + (0 : Int32)), .ref 94]) (by decide +kernel) rfl rfl ?_
    obtain ⟨e9, w⟩ := w
    refine ab_fin.q_sL (h1 := conc (τ4.wl 94 (((((τ1.i 83 6) + (1 : Int32)) * (32 : Int32)) + (0 : Int32)).toNatClampNeg) ((Int32.toInt64 l2)))) (pc' := 69) (by decide +kernel) (c_sL' (F5.s t0_94) e9 rfl) rfl ?_
    refine ab_fin.s2 (i := .aload_n 0) (k := 1) (pc' := 70) (lv' := [(4, .int (τ4.i 32 ((τ4.i 11 v6.toNatClampNeg).toNatClampNeg))), (3, .int (((τ1.i 83 6) + (1 : Int32)) * (32 : Int32))), (0, .ref 83), (1, .int l1), (2, .int l2)]) (st' := [.ref 83]) (by decide +kernel) rfl rfl ?_
    refine ab_fin.q_rA (b := 94) (ix := 15) (ci := 5) (k := 3) (pc' := 73) (by decide +kernel) rfl (c_rA (F5.s t0_83) rfl (rC_5_3 F5 t0_83)) rfl ?_
    refine ab_fin.s2 (i := .iload_n 3) (k := 1) (pc' := 74) (lv' := [(4, .int (τ4.i 32 ((τ4.i 11 v6.toNatClampNeg).toNatClampNeg))), (3, .int (((τ1.i 83 6) + (1 : Int32)) * (32 : Int32))), (0, .ref 83), (1, .int l1), (2, .int l2)]) (st' := [.int (((τ1.i 83 6) + (1 : Int32)) * (32 : Int32)), .ref 94]) (by decide +kernel) rfl rfl ?_
    refine ab_fin.s1i (i := .iconst 2) (k := 1) (pc' := 75) (n := 2) (by decide +kernel) rfl (by decide +kernel) rfl ?_
    refine ab_fin.s1 (i := .iadd) (k := 1) (pc' := 76) (st' := [.int ((((τ1.i 83 6) + (1 : Int32)) * (32 : Int32)) + (2 : Int32)), .ref 94]) (by decide +kernel) rfl rfl ?_
    refine ab_fin.s2 (i := .iload_n 1) (k := 1) (pc' := 77) (lv' := [(4, .int (τ4.i 32 ((τ4.i 11 v6.toNatClampNeg).toNatClampNeg))), (3, .int (((τ1.i 83 6) + (1 : Int32)) * (32 : Int32))), (0, .ref 83), (1, .int l1), (2, .int l2)]) (st' := [.int l1, .int ((((τ1.i 83 6) + (1 : Int32)) * (32 : Int32)) + (2 : Int32)), .ref 94]) (by decide +kernel) rfl rfl ?_
    refine ab_fin.s1 (i := .i2l) (k := 1) (pc' := 78) (st' := [.long ((Int32.toInt64 l1)), .int ((((τ1.i 83 6) + (1 : Int32)) * (32 : Int32)) + (2 : Int32)), .ref 94]) (by decide +kernel) rfl rfl ?_
    obtain ⟨e10, w⟩ := w
    refine ab_fin.q_sL (h1 := conc ((τ4.wl 94 (((((τ1.i 83 6) + (1 : Int32)) * (32 : Int32)) + (0 : Int32)).toNatClampNeg) ((Int32.toInt64 l2))).wl 94 (((((τ1.i 83 6) + (1 : Int32)) * (32 : Int32)) + (2 : Int32)).toNatClampNeg) ((Int32.toInt64 l1)))) (pc' := 79) (by decide +kernel) (c_sL' (F5.s t0_94) e10 rfl) rfl ?_
    refine ab_fin.s2 (i := .aload_n 0) (k := 1) (pc' := 80) (lv' := [(4, .int (τ4.i 32 ((τ4.i 11 v6.toNatClampNeg).toNatClampNeg))), (3, .int (((τ1.i 83 6) + (1 : Int32)) * (32 : Int32))), (0, .ref 83), (1, .int l1), (2, .int l2)]) (st' := [.ref 83]) (by decide +kernel) rfl rfl ?_
    refine ab_fin.q_rA (b := 94) (ix := 15) (ci := 5) (k := 3) (pc' := 83) (by decide +kernel) rfl (c_rA (F5.s t0_83) rfl (rC_5_3 F5 t0_83)) rfl ?_
    refine ab_fin.s2 (i := .iload_n 3) (k := 1) (pc' := 84) (lv' := [(4, .int (τ4.i 32 ((τ4.i 11 v6.toNatClampNeg).toNatClampNeg))), (3, .int (((τ1.i 83 6) + (1 : Int32)) * (32 : Int32))), (0, .ref 83), (1, .int l1), (2, .int l2)]) (st' := [.int (((τ1.i 83 6) + (1 : Int32)) * (32 : Int32)), .ref 94]) (by decide +kernel) rfl rfl ?_
    refine ab_fin.s1i (i := .iconst 5) (k := 1) (pc' := 85) (n := 5) (by decide +kernel) rfl (by decide +kernel) rfl ?_
    refine ab_fin.s1 (i := .iadd) (k := 1) (pc' := 86) (st' := [.int ((((τ1.i 83 6) + (1 : Int32)) * (32 : Int32)) + (5 : Int32)), .ref 94]) (by decide +kernel) rfl rfl ?_
    refine ab_fin.s7 (i := .ldc2_w 230) (k := 3) (pc' := 89) (st' := [.long 2, .int ((((τ1.i 83 6) + (1 : Int32)) * (32 : Int32)) + (5 : Int32)), .ref 94]) (by decide +kernel) rfl rfl ?_
    obtain ⟨e11, w⟩ := w
    refine ab_fin.q_sL (h1 := conc (((τ4.wl 94 (((((τ1.i 83 6) + (1 : Int32)) * (32 : Int32)) + (0 : Int32)).toNatClampNeg) ((Int32.toInt64 l2))).wl 94 (((((τ1.i 83 6) + (1 : Int32)) * (32 : Int32)) + (2 : Int32)).toNatClampNeg) ((Int32.toInt64 l1))).wl 94 (((((τ1.i 83 6) + (1 : Int32)) * (32 : Int32)) + (5 : Int32)).toNatClampNeg) (2 : Int64))) (pc' := 90) (by decide +kernel) (c_sL' (F5.s t0_94) e11 rfl) rfl ?_
    refine ab_fin.s2 (i := .aload_n 0) (k := 1) (pc' := 91) (lv' := [(4, .int (τ4.i 32 ((τ4.i 11 v6.toNatClampNeg).toNatClampNeg))), (3, .int (((τ1.i 83 6) + (1 : Int32)) * (32 : Int32))), (0, .ref 83), (1, .int l1), (2, .int l2)]) (st' := [.ref 83]) (by decide +kernel) rfl rfl ?_
    refine ab_fin.q_rA (b := 94) (ix := 15) (ci := 5) (k := 3) (pc' := 94) (by decide +kernel) rfl (c_rA (F5.s t0_83) rfl (rC_5_3 F5 t0_83)) rfl ?_
    refine ab_fin.s2 (i := .iload_n 3) (k := 1) (pc' := 95) (lv' := [(4, .int (τ4.i 32 ((τ4.i 11 v6.toNatClampNeg).toNatClampNeg))), (3, .int (((τ1.i 83 6) + (1 : Int32)) * (32 : Int32))), (0, .ref 83), (1, .int l1), (2, .int l2)]) (st' := [.int (((τ1.i 83 6) + (1 : Int32)) * (32 : Int32)), .ref 94]) (by decide +kernel) rfl rfl ?_
    refine ab_fin.s1i (i := .bipush 6) (k := 2) (pc' := 97) (n := 6) (by decide +kernel) rfl (by decide +kernel) rfl ?_
    refine ab_fin.s1 (i := .iadd) (k := 1) (pc' := 98) (st' := [.int ((((τ1.i 83 6) + (1 : Int32)) * (32 : Int32)) + (6 : Int32)), .ref 94]) (by decide +kernel) rfl rfl ?_
    refine ab_fin.s1l (i := .lconst 0) (k := 1) (pc' := 99) (n := 0) (by decide +kernel) rfl (by decide +kernel) rfl ?_
    obtain ⟨e12, w⟩ := w
    refine ab_fin.q_sL (h1 := conc ((((τ4.wl 94 (((((τ1.i 83 6) + (1 : Int32)) * (32 : Int32)) + (0 : Int32)).toNatClampNeg) ((Int32.toInt64 l2))).wl 94 (((((τ1.i 83 6) + (1 : Int32)) * (32 : Int32)) + (2 : Int32)).toNatClampNeg) ((Int32.toInt64 l1))).wl 94 (((((τ1.i 83 6) + (1 : Int32)) * (32 : Int32)) + (5 : Int32)).toNatClampNeg) (2 : Int64)).wl 94 (((((τ1.i 83 6) + (1 : Int32)) * (32 : Int32)) + (6 : Int32)).toNatClampNeg) (0 : Int64))) (pc' := 100) (by decide +kernel) (c_sL' (F5.s t0_94) e12 rfl) rfl ?_
    refine ab_fin.s2 (i := .aload_n 0) (k := 1) (pc' := 101) (lv' := [(4, .int (τ4.i 32 ((τ4.i 11 v6.toNatClampNeg).toNatClampNeg))), (3, .int (((τ1.i 83 6) + (1 : Int32)) * (32 : Int32))), (0, .ref 83), (1, .int l1), (2, .int l2)]) (st' := [.ref 83]) (by decide +kernel) rfl rfl ?_
    refine ab_fin.q_rA (b := 94) (ix := 15) (ci := 5) (k := 3) (pc' := 104) (by decide +kernel) rfl (c_rA (F5.s t0_83) rfl (rC_5_3 F5 t0_83)) rfl ?_
    refine ab_fin.s2 (i := .iload_n 3) (k := 1) (pc' := 105) (lv' := [(4, .int (τ4.i 32 ((τ4.i 11 v6.toNatClampNeg).toNatClampNeg))), (3, .int (((τ1.i 83 6) + (1 : Int32)) * (32 : Int32))), (0, .ref 83), (1, .int l1), (2, .int l2)]) (st' := [.int (((τ1.i 83 6) + (1 : Int32)) * (32 : Int32)), .ref 94]) (by decide +kernel) rfl rfl ?_
    refine ab_fin.s1i (i := .bipush 7) (k := 2) (pc' := 107) (n := 7) (by decide +kernel) rfl (by decide +kernel) rfl ?_
    refine ab_fin.s1 (i := .iadd) (k := 1) (pc' := 108) (st' := [.int ((((τ1.i 83 6) + (1 : Int32)) * (32 : Int32)) + (7 : Int32)), .ref 94]) (by decide +kernel) rfl rfl ?_
    refine ab_fin.s1i (i := .iconst 1) (k := 1) (pc' := 109) (n := 1) (by decide +kernel) rfl (by decide +kernel) rfl ?_
    refine ab_fin.s2 (i := .iload 4) (k := 2) (pc' := 111) (lv' := [(4, .int (τ4.i 32 ((τ4.i 11 v6.toNatClampNeg).toNatClampNeg))), (3, .int (((τ1.i 83 6) + (1 : Int32)) * (32 : Int32))), (0, .ref 83), (1, .int l1), (2, .int l2)]) (st' := [.int (τ4.i 32 ((τ4.i 11 v6.toNatClampNeg).toNatClampNeg)), .int 1, .int ((((τ1.i 83 6) + (1 : Int32)) * (32 : Int32)) + (7 : Int32)), .ref 94]) (by decide +kernel) rfl rfl ?_
    refine ab_fin.s1i (i := .iconst 4) (k := 1) (pc' := 112) (n := 4) (by decide +kernel) rfl (by decide +kernel) rfl ?_
    refine ab_fin.br (c := ¬ (τ4.i 32 ((τ4.i 11 v6.toNatClampNeg).toNatClampNeg)) = 4) (i := .if_icmp .ne 8) (off := 8) (t := 120) (pc' := 115) (r := [.int 1, .int ((((τ1.i 83 6) + (1 : Int32)) * (32 : Int32)) + (7 : Int32)), .ref 94]) (by decide +kernel) rfl (by decide +kernel) rfl (fun q => ?_) (fun q => ?_)
    · replace w := w.1 q
      refine ab_fin.s2 (i := .iload 4) (k := 2) (pc' := 122) (lv' := [(4, .int (τ4.i 32 ((τ4.i 11 v6.toNatClampNeg).toNatClampNeg))), (3, .int (((τ1.i 83 6) + (1 : Int32)) * (32 : Int32))), (0, .ref 83), (1, .int l1), (2, .int l2)]) (st' := [.int (τ4.i 32 ((τ4.i 11 v6.toNatClampNeg).toNatClampNeg)), .int 1, .int ((((τ1.i 83 6) + (1 : Int32)) * (32 : Int32)) + (7 : Int32)), .ref 94]) (by decide +kernel) rfl rfl ?_
      refine ab_fin.s1i (i := .iconst 2) (k := 1) (pc' := 123) (n := 2) (by decide +kernel) rfl (by decide +kernel) rfl ?_
      refine ab_fin.br (c := ¬ (τ4.i 32 ((τ4.i 11 v6.toNatClampNeg).toNatClampNeg)) = 2) (i := .if_icmp .ne 7) (off := 7) (t := 130) (pc' := 126) (r := [.int 1, .int ((((τ1.i 83 6) + (1 : Int32)) * (32 : Int32)) + (7 : Int32)), .ref 94]) (by decide +kernel) rfl (by decide +kernel) rfl (fun q => ?_) (fun q => ?_)
      · replace w := w.1 q
        refine ab_fin.s1i (i := .iconst 0) (k := 1) (pc' := 131) (n := 0) (by decide +kernel) rfl (by decide +kernel) rfl ?_
        exact ab_fin.lv ⟨(List.forall_mem_cons.mpr ⟨(List.Mem.tail _ (List.Mem.tail _ (List.Mem.head _))), (List.forall_mem_cons.mpr ⟨(List.Mem.tail _ (List.Mem.head _)), (fun _ h => absurd h List.not_mem_nil)⟩)⟩), (show ([4, 3, 0, 1, 2] : List Nat).Nodup from by decide)⟩ w
      · replace w := w.2 (Decidable.of_not_not q)
        refine ab_fin.s1i (i := .iconst 1) (k := 1) (pc' := 127) (n := 1) (by decide +kernel) rfl (by decide +kernel) rfl ?_
        refine ab_fin.s3 (i := .goto 4) (k := 3) (t := 131) (st' := [.int 1, .int 1, .int ((((τ1.i 83 6) + (1 : Int32)) * (32 : Int32)) + (7 : Int32)), .ref 94]) (by decide +kernel) (ab_gto (by decide +kernel)) ?_
        exact ab_fin.lv ⟨(List.forall_mem_cons.mpr ⟨(List.Mem.tail _ (List.Mem.tail _ (List.Mem.head _))), (List.forall_mem_cons.mpr ⟨(List.Mem.tail _ (List.Mem.head _)), (fun _ h => absurd h List.not_mem_nil)⟩)⟩), (show ([4, 3, 0, 1, 2] : List Nat).Nodup from by decide)⟩ w
    · replace w := w.2 (Decidable.of_not_not q)
      refine ab_fin.s7 (i := .ldc 234) (k := 2) (pc' := 117) (st' := [.int 2147483647, .int 1, .int ((((τ1.i 83 6) + (1 : Int32)) * (32 : Int32)) + (7 : Int32)), .ref 94]) (by decide +kernel) rfl rfl ?_
      refine ab_fin.s3 (i := .goto 14) (k := 3) (t := 131) (st' := [.int 2147483647, .int 1, .int ((((τ1.i 83 6) + (1 : Int32)) * (32 : Int32)) + (7 : Int32)), .ref 94]) (by decide +kernel) (ab_gto (by decide +kernel)) ?_
      exact ab_fin.lv ⟨(List.forall_mem_cons.mpr ⟨(List.Mem.tail _ (List.Mem.tail _ (List.Mem.head _))), (List.forall_mem_cons.mpr ⟨(List.Mem.tail _ (List.Mem.head _)), (fun _ h => absurd h List.not_mem_nil)⟩)⟩), (show ([4, 3, 0, 1, 2] : List Nat).Nodup from by decide)⟩ w
  · replace w := w.2 (Decidable.of_not_not q)
    refine ab_fin.s2 (i := .aload_n 0) (k := 1) (pc' := 13) (lv' := [(0, .ref 83), (1, .int l1), (2, .int l2)]) (st' := [.ref 83]) (by decide +kernel) rfl rfl ?_
    refine ab_fin.s1i (i := .iconst 2) (k := 1) (pc' := 14) (n := 2) (by decide +kernel) rfl (by decide +kernel) rfl ?_
    refine ab_fin.q_pF (ix := 115) (ci := 5) (k := 9) (h1 := conc (τ1.wi 83 9 (2 : Int32))) (pc' := 17) (by decide +kernel) rfl (c_pI (v := 2) (F2.s t0_83) rfl) rfl rfl rfl ?_
    exact ab_fin.q_ret (i := .return_) (k := 1) (v := none) (by decide +kernel) rfl F2 w
theorem T_X4_beginInside_131 {Z : zT} {d : Nat} {σ : Sg} {l3 : Int32} {s1 : Int32} {s2 : Int32} {s3 : Int32} {K : kS} (F : FX ΦC σ.sh σ.r) (w : C_X4_valueOf_0 Z d σ s2 s3 (yL K fun v3 τ1 => ib s1 832 ∧ (cpb (0 : Int32) (l3 + (8 : Int32)) (3 : Int32) 3 832 ∧ (C_X4_goOnInside_0 Z d ((τ1.wl 94 s1.toNatClampNeg v3).cpL 95 ((0 : Int32).toNatClampNeg) 94 ((l3 + (8 : Int32)).toNatClampNeg) ((3 : Int32).toNatClampNeg))  (yN K fun τ7 => K (.inl none) τ7))))) : C_X4_beginInside_131 Z (d + 1) σ l3 s1 s2 s3 K := by
  unfold C_X4_beginInside_131
  refine ab_fin.q_yL (i := .invokestatic 118) (k := 3) (y := 1026) (As := [.int s2, .int s3]) (rest := [.int s1, .ref 94]) (M' := (mX4_valueOf, [])) (lv2 := [(0, .int s2), (1, .int s3)]) (pc' := 134) (X := K) (by decide +kernel) (ab_cs rfl rfl ⟨(Nat.le_of_ble_eq_true rfl), (Nat.le_of_ble_eq_true rfl)⟩ rfl) rfl (Nat.le_of_ble_eq_true rfl) rfl rfl (hY_no fun E => rfl) w (fun v3 τ1 F2 w => ?_)
  obtain ⟨e4, w⟩ := w
  refine ab_fin.q_sL (h1 := conc (τ1.wl 94 s1.toNatClampNeg v3)) (pc' := 135) (by decide +kernel) (c_sL' (F2.s t0_94) e4 rfl) rfl ?_
  refine ab_fin.s2 (i := .aload_n 0) (k := 1) (pc' := 136) (lv' := [(0, .ref 83), (3, .int l3)]) (st' := [.ref 83]) (by decide +kernel) rfl rfl ?_
  refine ab_fin.q_rA (b := 95) (ix := 18) (ci := 5) (k := 4) (pc' := 139) (by decide +kernel) rfl (c_rA (F2.s t0_83) rfl (rC_5_4 F2 t0_83)) rfl ?_
  refine ab_fin.s1i (i := .iconst 0) (k := 1) (pc' := 140) (n := 0) (by decide +kernel) rfl (by decide +kernel) rfl ?_
  refine ab_fin.s2 (i := .aload_n 0) (k := 1) (pc' := 141) (lv' := [(0, .ref 83), (3, .int l3)]) (st' := [.ref 83, .int 0, .ref 95]) (by decide +kernel) rfl rfl ?_
  refine ab_fin.q_rA (b := 94) (ix := 15) (ci := 5) (k := 3) (pc' := 144) (by decide +kernel) rfl (c_rA (F2.s t0_83) rfl (rC_5_3 F2 t0_83)) rfl ?_
  refine ab_fin.s2 (i := .iload_n 3) (k := 1) (pc' := 145) (lv' := [(0, .ref 83), (3, .int l3)]) (st' := [.int l3, .ref 94, .int 0, .ref 95]) (by decide +kernel) rfl rfl ?_
  refine ab_fin.s1i (i := .bipush 8) (k := 2) (pc' := 147) (n := 8) (by decide +kernel) rfl (by decide +kernel) rfl ?_
  refine ab_fin.s1 (i := .iadd) (k := 1) (pc' := 148) (st' := [.int (l3 + (8 : Int32)), .ref 94, .int 0, .ref 95]) (by decide +kernel) rfl rfl ?_
  refine ab_fin.s1i (i := .iconst 3) (k := 1) (pc' := 149) (n := 3) (by decide +kernel) rfl (by decide +kernel) rfl ?_
  obtain ⟨e5, w⟩ := w
  refine ab_fin.cpy (i := .invokestatic 203) (k := 3) (pc' := 152) (h1 := conc ((τ1.wl 94 s1.toNatClampNeg v3).cpL 95 ((0 : Int32).toNatClampNeg) 94 ((l3 + (8 : Int32)).toNatClampNeg) ((3 : Int32).toNatClampNeg))) (st' := []) (by decide +kernel) (ab_cpT rfl (c_cpL (F2.s t0_95) (F2.s t0_94) e5 (by decide))) rfl ?_
  refine ab_fin.s2 (i := .aload_n 0) (k := 1) (pc' := 153) (lv' := [(0, .ref 83), (3, .int l3)]) (st' := [.ref 83]) (by decide +kernel) rfl rfl ?_
  refine ab_fin.q_yN (i := .invokevirtual 235) (k := 3) (y := 1046) (As := [.ref 83]) (rest := []) (M' := (mX4_goOnInside, [])) (lv2 := [(0, .ref 83)]) (pc' := 156) (X := K) (by decide +kernel) (ab_cv rfl rfl (conc_get (σ := ((τ1.wl 94 s1.toNatClampNeg v3).cpL 95 ((0 : Int32).toNatClampNeg) 94 ((l3 + (8 : Int32)).toNatClampNeg) ((3 : Int32).toNatClampNeg))) (F2.s t0_83)) ⟨(Nat.le_of_ble_eq_true rfl), (Nat.le_of_ble_eq_true rfl)⟩ rfl) rfl (Nat.le_of_ble_eq_true rfl) rfl rfl (hY_no fun E => rfl) w (fun τ7 F8 w => ?_)
  exact ab_fin.q_ret (i := .return_) (k := 1) (v := none) (by decide +kernel) rfl F8 w
theorem T_X4_goOnInside_0 {Z : zT} {d : Nat} {σ : Sg}  {K : kS} (F : FX ΦC σ.sh σ.r) (w : C_X4_inFrame_0 Z d σ ((σ.i 83 6) + (1 : Int32)) 2 (yI K fun v3 τ1 => C_X4_inFrame_0 Z d τ1 ((σ.i 83 6) + (1 : Int32)) 6 (yI K fun v6 τ4 => C_X4_inFrame_0 Z d τ4 ((σ.i 83 6) + (1 : Int32)) 5 (yI K fun v9 τ7 => (¬ v9 = 2 → C_X4_goOnInside_64 Z (d + 1) τ7 ((σ.i 83 6) + (1 : Int32)) (((σ.i 83 6) + (1 : Int32)) * (32 : Int32)) v3 v6 K) ∧ (v9 = 2 → C_X0_rowSize_0 Z d τ7 v3 2 (yI K fun v12 τ10 => (v6 < v12 → C_X4_goOnInside_64 Z (d + 1) τ10 ((σ.i 83 6) + (1 : Int32)) (((σ.i 83 6) + (1 : Int32)) * (32 : Int32)) v3 v6 K) ∧ (¬ v6 < v12 → ib ((((σ.i 83 6) + (1 : Int32)) * (32 : Int32)) + (5 : Int32)) 832 ∧ (C_X4_goOnInside_64 Z (d + 1) (τ10.wl 94 (((((σ.i 83 6) + (1 : Int32)) * (32 : Int32)) + (5 : Int32)).toNatClampNeg) (0 : Int64)) ((σ.i 83 6) + (1 : Int32)) (((σ.i 83 6) + (1 : Int32)) * (32 : Int32)) v3 0 K)))))))) : C_X4_goOnInside_0 Z (d + 1) σ  K := by
  unfold C_X4_goOnInside_0
  refine ab_fin.s2 (i := .aload_n 0) (k := 1) (pc' := 1) (lv' := [(0, .ref 83)]) (st' := [.ref 83]) (by decide +kernel) rfl rfl ?_
  refine ab_fin.q_rI (x := (σ.i 83 6)) (ix := 80) (ci := 5) (k := 6) (pc' := 4) (by decide +kernel) rfl (c_rI (F.s t0_83) rfl) rfl ?_
  refine ab_fin.s1i (i := .iconst 1) (k := 1) (pc' := 5) (n := 1) (by decide +kernel) rfl (by decide +kernel) rfl ?_
  refine ab_fin.s1 (i := .iadd) (k := 1) (pc' := 6) (st' := [.int ((σ.i 83 6) + (1 : Int32))]) (by decide +kernel) rfl rfl ?_
  refine ab_fin.s2 (i := .istore_n 1) (k := 1) (pc' := 7) (lv' := [(1, .int ((σ.i 83 6) + (1 : Int32))), (0, .ref 83)]) (st' := []) (by decide +kernel) rfl rfl ?_
  refine ab_fin.s2 (i := .iload_n 1) (k := 1) (pc' := 8) (lv' := [(1, .int ((σ.i 83 6) + (1 : Int32))), (0, .ref 83)]) (st' := [.int ((σ.i 83 6) + (1 : Int32))]) (by decide +kernel) rfl rfl ?_
  refine ab_fin.s1i (i := .bipush 32) (k := 2) (pc' := 10) (n := 32) (by decide +kernel) rfl (by decide +kernel) rfl ?_
  refine ab_fin.s1 (i := .imul) (k := 1) (pc' := 11) (st' := [.int (((σ.i 83 6) + (1 : Int32)) * (32 : Int32))]) (by decide +kernel) rfl rfl ?_
  refine ab_fin.s2 (i := .istore_n 2) (k := 1) (pc' := 12) (lv' := [(2, .int (((σ.i 83 6) + (1 : Int32)) * (32 : Int32))), (1, .int ((σ.i 83 6) + (1 : Int32))), (0, .ref 83)]) (st' := []) (by decide +kernel) rfl rfl ?_
  refine ab_fin.s2 (i := .aload_n 0) (k := 1) (pc' := 13) (lv' := [(2, .int (((σ.i 83 6) + (1 : Int32)) * (32 : Int32))), (1, .int ((σ.i 83 6) + (1 : Int32))), (0, .ref 83)]) (st' := [.ref 83]) (by decide +kernel) rfl rfl ?_
  refine ab_fin.s2 (i := .iload_n 1) (k := 1) (pc' := 14) (lv' := [(2, .int (((σ.i 83 6) + (1 : Int32)) * (32 : Int32))), (1, .int ((σ.i 83 6) + (1 : Int32))), (0, .ref 83)]) (st' := [.int ((σ.i 83 6) + (1 : Int32)), .ref 83]) (by decide +kernel) rfl rfl ?_
  refine ab_fin.s1i (i := .iconst 2) (k := 1) (pc' := 15) (n := 2) (by decide +kernel) rfl (by decide +kernel) rfl ?_
  refine ab_fin.q_yI (i := .invokevirtual 218) (k := 3) (y := 1041) (As := [.ref 83, .int ((σ.i 83 6) + (1 : Int32)), .int 2]) (rest := []) (M' := (mX4_inFrame, [])) (lv2 := [(0, .ref 83), (1, .int ((σ.i 83 6) + (1 : Int32))), (2, .int 2)]) (pc' := 18) (X := K) (by decide +kernel) (ab_cv rfl rfl (conc_get (σ := σ) (F.s t0_83)) ⟨(Nat.le_of_ble_eq_true rfl), (Nat.le_of_ble_eq_true rfl)⟩ rfl) rfl (Nat.le_of_ble_eq_true rfl) rfl rfl (hY_no fun E => rfl) w (fun v3 τ1 F2 w => ?_)
  refine ab_fin.s2 (i := .istore_n 3) (k := 1) (pc' := 19) (lv' := [(3, .int v3), (2, .int (((σ.i 83 6) + (1 : Int32)) * (32 : Int32))), (1, .int ((σ.i 83 6) + (1 : Int32))), (0, .ref 83)]) (st' := []) (by decide +kernel) rfl rfl ?_
  refine ab_fin.s2 (i := .aload_n 0) (k := 1) (pc' := 20) (lv' := [(3, .int v3), (2, .int (((σ.i 83 6) + (1 : Int32)) * (32 : Int32))), (1, .int ((σ.i 83 6) + (1 : Int32))), (0, .ref 83)]) (st' := [.ref 83]) (by decide +kernel) rfl rfl ?_
  refine ab_fin.s2 (i := .iload_n 1) (k := 1) (pc' := 21) (lv' := [(3, .int v3), (2, .int (((σ.i 83 6) + (1 : Int32)) * (32 : Int32))), (1, .int ((σ.i 83 6) + (1 : Int32))), (0, .ref 83)]) (st' := [.int ((σ.i 83 6) + (1 : Int32)), .ref 83]) (by decide +kernel) rfl rfl ?_
  refine ab_fin.s1i (i := .bipush 6) (k := 2) (pc' := 23) (n := 6) (by decide +kernel) rfl (by decide +kernel) rfl ?_
  refine ab_fin.q_yI (i := .invokevirtual 218) (k := 3) (y := 1041) (As := [.ref 83, .int ((σ.i 83 6) + (1 : Int32)), .int 6]) (rest := []) (M' := (mX4_inFrame, [])) (lv2 := [(0, .ref 83), (1, .int ((σ.i 83 6) + (1 : Int32))), (2, .int 6)]) (pc' := 26) (X := K) (by decide +kernel) (ab_cv rfl rfl (conc_get (σ := τ1) (F2.s t0_83)) ⟨(Nat.le_of_ble_eq_true rfl), (Nat.le_of_ble_eq_true rfl)⟩ rfl) rfl (Nat.le_of_ble_eq_true rfl) rfl rfl (hY_no fun E => rfl) w (fun v6 τ4 F5 w => ?_)
  refine ab_fin.s2 (i := .istore 4) (k := 2) (pc' := 28) (lv' := [(4, .int v6), (3, .int v3), (2, .int (((σ.i 83 6) + (1 : Int32)) * (32 : Int32))), (1, .int ((σ.i 83 6) + (1 : Int32))), (0, .ref 83)]) (st' := []) (by decide +kernel) rfl rfl ?_
  refine ab_fin.s2 (i := .aload_n 0) (k := 1) (pc' := 29) (lv' := [(4, .int v6), (3, .int v3), (2, .int (((σ.i 83 6) + (1 : Int32)) * (32 : Int32))), (1, .int ((σ.i 83 6) + (1 : Int32))), (0, .ref 83)]) (st' := [.ref 83]) (by decide +kernel) rfl rfl ?_
  refine ab_fin.s2 (i := .iload_n 1) (k := 1) (pc' := 30) (lv' := [(4, .int v6), (3, .int v3), (2, .int (((σ.i 83 6) + (1 : Int32)) * (32 : Int32))), (1, .int ((σ.i 83 6) + (1 : Int32))), (0, .ref 83)]) (st' := [.int ((σ.i 83 6) + (1 : Int32)), .ref 83]) (by decide +kernel) rfl rfl ?_
  refine ab_fin.s1i (i := .iconst 5) (k := 1) (pc' := 31) (n := 5) (by decide +kernel) rfl (by decide +kernel) rfl ?_
  refine ab_fin.q_yI (i := .invokevirtual 218) (k := 3) (y := 1041) (As := [.ref 83, .int ((σ.i 83 6) + (1 : Int32)), .int 5]) (rest := []) (M' := (mX4_inFrame, [])) (lv2 := [(0, .ref 83), (1, .int ((σ.i 83 6) + (1 : Int32))), (2, .int 5)]) (pc' := 34) (X := K) (by decide +kernel) (ab_cv rfl rfl (conc_get (σ := τ4) (F5.s t0_83)) ⟨(Nat.le_of_ble_eq_true rfl), (Nat.le_of_ble_eq_true rfl)⟩ rfl) rfl (Nat.le_of_ble_eq_true rfl) rfl rfl (hY_no fun E => rfl) w (fun v9 τ7 F8 w => ?_)
  refine ab_fin.s1i (i := .iconst 2) (k := 1) (pc' := 35) (n := 2) (by decide +kernel) rfl (by decide +kernel) rfl ?_
  refine ab_fin.br (c := ¬ v9 = 2) (i := .if_icmp .ne 29) (off := 29) (t := 64) (pc' := 38) (r := []) (by decide +kernel) rfl (by decide +kernel) rfl (fun q => ?_) (fun q => ?_)
  · replace w := w.1 q
    exact ab_fin.lv ⟨(List.forall_mem_cons.mpr ⟨(List.Mem.tail _ (List.Mem.tail _ (List.Mem.tail _ (List.Mem.tail _ (List.Mem.head _))))), (List.forall_mem_cons.mpr ⟨(List.Mem.tail _ (List.Mem.tail _ (List.Mem.tail _ (List.Mem.head _)))), (List.forall_mem_cons.mpr ⟨(List.Mem.tail _ (List.Mem.tail _ (List.Mem.head _))), (List.forall_mem_cons.mpr ⟨(List.Mem.tail _ (List.Mem.head _)), (List.forall_mem_cons.mpr ⟨(List.Mem.head _), (fun _ h => absurd h List.not_mem_nil)⟩)⟩)⟩)⟩)⟩), (show ([4, 3, 2, 1, 0] : List Nat).Nodup from by decide)⟩ w
  · replace w := w.2 (Decidable.of_not_not q)
    refine ab_fin.s2 (i := .iload 4) (k := 2) (pc' := 40) (lv' := [(4, .int v6), (3, .int v3), (2, .int (((σ.i 83 6) + (1 : Int32)) * (32 : Int32))), (1, .int ((σ.i 83 6) + (1 : Int32))), (0, .ref 83)]) (st' := [.int v6]) (by decide +kernel) rfl rfl ?_
    refine ab_fin.s2 (i := .aload_n 0) (k := 1) (pc' := 41) (lv' := [(4, .int v6), (3, .int v3), (2, .int (((σ.i 83 6) + (1 : Int32)) * (32 : Int32))), (1, .int ((σ.i 83 6) + (1 : Int32))), (0, .ref 83)]) (st' := [.ref 83, .int v6]) (by decide +kernel) rfl rfl ?_
    refine ab_fin.q_rA (b := 84) (ix := 36) (ci := 5) (k := 1) (pc' := 44) (by decide +kernel) rfl (c_rA (F8.s t0_83) rfl (rC_5_1 F8 t0_83)) rfl ?_
    refine ab_fin.s2 (i := .iload_n 3) (k := 1) (pc' := 45) (lv' := [(4, .int v6), (3, .int v3), (2, .int (((σ.i 83 6) + (1 : Int32)) * (32 : Int32))), (1, .int ((σ.i 83 6) + (1 : Int32))), (0, .ref 83)]) (st' := [.int v3, .ref 84, .int v6]) (by decide +kernel) rfl rfl ?_
    refine ab_fin.s1i (i := .iconst 2) (k := 1) (pc' := 46) (n := 2) (by decide +kernel) rfl (by decide +kernel) rfl ?_
    refine ab_fin.q_yI (i := .invokevirtual 186) (k := 3) (y := 1) (As := [.ref 84, .int v3, .int 2]) (rest := [.int v6]) (M' := (mX0_rowSize, [])) (lv2 := [(0, .ref 84), (1, .int v3), (2, .int 2)]) (pc' := 49) (X := K) (by decide +kernel) (ab_cv rfl rfl (conc_get (σ := τ7) (F8.s t0_84)) ⟨(Nat.le_of_ble_eq_true rfl), (Nat.le_of_ble_eq_true rfl)⟩ rfl) rfl (Nat.le_of_ble_eq_true rfl) rfl rfl (hY_no fun E => rfl) w (fun v12 τ10 F11 w => ?_)
    refine ab_fin.br (c := v6 < v12) (i := .if_icmp .lt 15) (off := 15) (t := 64) (pc' := 52) (r := []) (by decide +kernel) rfl (by decide +kernel) rfl (fun q => ?_) (fun q => ?_)
    · replace w := w.1 q
      exact ab_fin.lv ⟨(List.forall_mem_cons.mpr ⟨(List.Mem.tail _ (List.Mem.tail _ (List.Mem.tail _ (List.Mem.tail _ (List.Mem.head _))))), (List.forall_mem_cons.mpr ⟨(List.Mem.tail _ (List.Mem.tail _ (List.Mem.tail _ (List.Mem.head _)))), (List.forall_mem_cons.mpr ⟨(List.Mem.tail _ (List.Mem.tail _ (List.Mem.head _))), (List.forall_mem_cons.mpr ⟨(List.Mem.tail _ (List.Mem.head _)), (List.forall_mem_cons.mpr ⟨(List.Mem.head _), (fun _ h => absurd h List.not_mem_nil)⟩)⟩)⟩)⟩)⟩), (show ([4, 3, 2, 1, 0] : List Nat).Nodup from by decide)⟩ w
    · replace w := w.2 q
      refine ab_fin.s2 (i := .aload_n 0) (k := 1) (pc' := 53) (lv' := [(4, .int v6), (3, .int v3), (2, .int (((σ.i 83 6) + (1 : Int32)) * (32 : Int32))), (1, .int ((σ.i 83 6) + (1 : Int32))), (0, .ref 83)]) (st' := [.ref 83]) (by decide +kernel) rfl rfl ?_
      refine ab_fin.q_rA (b := 94) (ix := 15) (ci := 5) (k := 3) (pc' := 56) (by decide +kernel) rfl (c_rA (F11.s t0_83) rfl (rC_5_3 F11 t0_83)) rfl ?_
      refine ab_fin.s2 (i := .iload_n 2) (k := 1) (pc' := 57) (lv' := [(4, .int v6), (3, .int v3), (2, .int (((σ.i 83 6) + (1 : Int32)) * (32 : Int32))), (1, .int ((σ.i 83 6) + (1 : Int32))), (0, .ref 83)]) (st' := [.int (((σ.i 83 6) + (1 : Int32)) * (32 : Int32)), .ref 94]) (by decide +kernel) rfl rfl ?_
      refine ab_fin.s1i (i := .iconst 5) (k := 1) (pc' := 58) (n := 5) (by decide +kernel) rfl (by decide +kernel) rfl ?_
      refine ab_fin.s1 (i := .iadd) (k := 1) (pc' := 59) (st' := [.int ((((σ.i 83 6) + (1 : Int32)) * (32 : Int32)) + (5 : Int32)), .ref 94]) (by decide +kernel) rfl rfl ?_
      refine ab_fin.s1l (i := .lconst 0) (k := 1) (pc' := 60) (n := 0) (by decide +kernel) rfl (by decide +kernel) rfl ?_
      obtain ⟨e13, w⟩ := w
      refine ab_fin.q_sL (h1 := conc (τ10.wl 94 (((((σ.i 83 6) + (1 : Int32)) * (32 : Int32)) + (5 : Int32)).toNatClampNeg) (0 : Int64))) (pc' := 61) (by decide +kernel) (c_sL' (F11.s t0_94) e13 rfl) rfl ?_
      refine ab_fin.s1i (i := .iconst 0) (k := 1) (pc' := 62) (n := 0) (by decide +kernel) rfl (by decide +kernel) rfl ?_
      refine ab_fin.s2 (i := .istore 4) (k := 2) (pc' := 64) (lv' := [(4, .int 0), (3, .int v3), (2, .int (((σ.i 83 6) + (1 : Int32)) * (32 : Int32))), (1, .int ((σ.i 83 6) + (1 : Int32))), (0, .ref 83)]) (st' := []) (by decide +kernel) rfl rfl ?_
      exact ab_fin.lv ⟨(List.forall_mem_cons.mpr ⟨(List.Mem.tail _ (List.Mem.tail _ (List.Mem.tail _ (List.Mem.tail _ (List.Mem.head _))))), (List.forall_mem_cons.mpr ⟨(List.Mem.tail _ (List.Mem.tail _ (List.Mem.tail _ (List.Mem.head _)))), (List.forall_mem_cons.mpr ⟨(List.Mem.tail _ (List.Mem.tail _ (List.Mem.head _))), (List.forall_mem_cons.mpr ⟨(List.Mem.tail _ (List.Mem.head _)), (List.forall_mem_cons.mpr ⟨(List.Mem.head _), (fun _ h => absurd h List.not_mem_nil)⟩)⟩)⟩)⟩)⟩), (show ([4, 3, 2, 1, 0] : List Nat).Nodup from by decide)⟩ w
theorem T_X4_goOnInside_64 {Z : zT} {d : Nat} {σ : Sg} {l1 : Int32} {l2 : Int32} {l3 : Int32} {l4 : Int32} {K : kS} (F : FX ΦC σ.sh σ.r) (w : C_X4_inFrame_0 Z d σ l1 5 (yI K fun v3 τ1 => (¬ v3 = 0 → C_X4_goOnInside_97 Z (d + 1) τ1 l1 l2 l3 l4 K) ∧ (v3 = 0 → C_X4_plainTurns_0 Z d τ1 l3 (yI K fun v6 τ4 => (l4 < v6 → C_X4_goOnInside_97 Z (d + 1) τ4 l1 l2 l3 l4 K) ∧ (¬ l4 < v6 → ib (l2 + (5 : Int32)) 832 ∧ (C_X4_goOnInside_97 Z (d + 1) (τ4.wl 94 ((l2 + (5 : Int32)).toNatClampNeg) (3 : Int64)) l1 l2 l3 0 K)))))) : C_X4_goOnInside_64 Z (d + 1) σ l1 l2 l3 l4 K := by
  unfold C_X4_goOnInside_64
  refine ab_fin.s2 (i := .aload_n 0) (k := 1) (pc' := 65) (lv' := [(0, .ref 83), (1, .int l1), (2, .int l2), (3, .int l3), (4, .int l4)]) (st' := [.ref 83]) (by decide +kernel) rfl rfl ?_
  refine ab_fin.s2 (i := .iload_n 1) (k := 1) (pc' := 66) (lv' := [(0, .ref 83), (1, .int l1), (2, .int l2), (3, .int l3), (4, .int l4)]) (st' := [.int l1, .ref 83]) (by decide +kernel) rfl rfl ?_
  refine ab_fin.s1i (i := .iconst 5) (k := 1) (pc' := 67) (n := 5) (by decide +kernel) rfl (by decide +kernel) rfl ?_
  refine ab_fin.q_yI (i := .invokevirtual 218) (k := 3) (y := 1041) (As := [.ref 83, .int l1, .int 5]) (rest := []) (M' := (mX4_inFrame, [])) (lv2 := [(0, .ref 83), (1, .int l1), (2, .int 5)]) (pc' := 70) (X := K) (by decide +kernel) (ab_cv rfl rfl (conc_get (σ := σ) (F.s t0_83)) ⟨(Nat.le_of_ble_eq_true rfl), (Nat.le_of_ble_eq_true rfl)⟩ rfl) rfl (Nat.le_of_ble_eq_true rfl) rfl rfl (hY_no fun E => rfl) w (fun v3 τ1 F2 w => ?_)
  refine ab_fin.br (c := ¬ v3 = 0) (i := .ifCond .ne 27) (off := 27) (t := 97) (pc' := 73) (r := []) (by decide +kernel) rfl (by decide +kernel) rfl (fun q => ?_) (fun q => ?_)
  · replace w := w.1 q
    exact ab_fin.lv ⟨(List.forall_mem_cons.mpr ⟨(List.Mem.head _), (List.forall_mem_cons.mpr ⟨(List.Mem.tail _ (List.Mem.head _)), (List.forall_mem_cons.mpr ⟨(List.Mem.tail _ (List.Mem.tail _ (List.Mem.head _))), (List.forall_mem_cons.mpr ⟨(List.Mem.tail _ (List.Mem.tail _ (List.Mem.tail _ (List.Mem.head _)))), (List.forall_mem_cons.mpr ⟨(List.Mem.tail _ (List.Mem.tail _ (List.Mem.tail _ (List.Mem.tail _ (List.Mem.head _))))), (fun _ h => absurd h List.not_mem_nil)⟩)⟩)⟩)⟩)⟩), (show ([0, 1, 2, 3, 4] : List Nat).Nodup from by decide)⟩ w
  · replace w := w.2 (Decidable.of_not_not q)
    refine ab_fin.s2 (i := .iload 4) (k := 2) (pc' := 75) (lv' := [(0, .ref 83), (1, .int l1), (2, .int l2), (3, .int l3), (4, .int l4)]) (st' := [.int l4]) (by decide +kernel) rfl rfl ?_
    refine ab_fin.s2 (i := .aload_n 0) (k := 1) (pc' := 76) (lv' := [(0, .ref 83), (1, .int l1), (2, .int l2), (3, .int l3), (4, .int l4)]) (st' := [.ref 83, .int l4]) (by decide +kernel) rfl rfl ?_
    refine ab_fin.s2 (i := .iload_n 3) (k := 1) (pc' := 77) (lv' := [(0, .ref 83), (1, .int l1), (2, .int l2), (3, .int l3), (4, .int l4)]) (st' := [.int l3, .ref 83, .int l4]) (by decide +kernel) rfl rfl ?_
    refine ab_fin.q_yI (i := .invokevirtual 238) (k := 3) (y := 1047) (As := [.ref 83, .int l3]) (rest := [.int l4]) (M' := (mX4_plainTurns, [])) (lv2 := [(0, .ref 83), (1, .int l3)]) (pc' := 80) (X := K) (by decide +kernel) (ab_cv rfl rfl (conc_get (σ := τ1) (F2.s t0_83)) ⟨(Nat.le_of_ble_eq_true rfl), (Nat.le_of_ble_eq_true rfl)⟩ rfl) rfl (Nat.le_of_ble_eq_true rfl) rfl rfl (hY_no fun E => rfl) w (fun v6 τ4 F5 w => ?_)
    refine ab_fin.br (c := l4 < v6) (i := .if_icmp .lt 17) (off := 17) (t := 97) (pc' := 83) (r := []) (by decide +kernel) rfl (by decide +kernel) rfl (fun q => ?_) (fun q => ?_)
    · replace w := w.1 q
      exact ab_fin.lv ⟨(List.forall_mem_cons.mpr ⟨(List.Mem.head _), (List.forall_mem_cons.mpr ⟨(List.Mem.tail _ (List.Mem.head _)), (List.forall_mem_cons.mpr ⟨(List.Mem.tail _ (List.Mem.tail _ (List.Mem.head _))), (List.forall_mem_cons.mpr ⟨(List.Mem.tail _ (List.Mem.tail _ (List.Mem.tail _ (List.Mem.head _)))), (List.forall_mem_cons.mpr ⟨(List.Mem.tail _ (List.Mem.tail _ (List.Mem.tail _ (List.Mem.tail _ (List.Mem.head _))))), (fun _ h => absurd h List.not_mem_nil)⟩)⟩)⟩)⟩)⟩), (show ([0, 1, 2, 3, 4] : List Nat).Nodup from by decide)⟩ w
    · replace w := w.2 q
      refine ab_fin.s2 (i := .aload_n 0) (k := 1) (pc' := 84) (lv' := [(0, .ref 83), (1, .int l1), (2, .int l2), (3, .int l3), (4, .int l4)]) (st' := [.ref 83]) (by decide +kernel) rfl rfl ?_
      refine ab_fin.q_rA (b := 94) (ix := 15) (ci := 5) (k := 3) (pc' := 87) (by decide +kernel) rfl (c_rA (F5.s t0_83) rfl (rC_5_3 F5 t0_83)) rfl ?_
      refine ab_fin.s2 (i := .iload_n 2) (k := 1) (pc' := 88) (lv' := [(0, .ref 83), (1, .int l1), (2, .int l2), (3, .int l3), (4, .int l4)]) (st' := [.int l2, .ref 94]) (by decide +kernel) rfl rfl ?_
      refine ab_fin.s1i (i := .iconst 5) (k := 1) (pc' := 89) (n := 5) (by decide +kernel) rfl (by decide +kernel) rfl ?_
      refine ab_fin.s1 (i := .iadd) (k := 1) (pc' := 90) (st' := [.int (l2 + (5 : Int32)), .ref 94]) (by decide +kernel) rfl rfl ?_
      refine ab_fin.s7 (i := .ldc2_w 242) (k := 3) (pc' := 93) (st' := [.long 3, .int (l2 + (5 : Int32)), .ref 94]) (by decide +kernel) rfl rfl ?_
      obtain ⟨e7, w⟩ := w
      refine ab_fin.q_sL (h1 := conc (τ4.wl 94 ((l2 + (5 : Int32)).toNatClampNeg) (3 : Int64))) (pc' := 94) (by decide +kernel) (c_sL' (F5.s t0_94) e7 rfl) rfl ?_
      refine ab_fin.s1i (i := .iconst 0) (k := 1) (pc' := 95) (n := 0) (by decide +kernel) rfl (by decide +kernel) rfl ?_
      refine ab_fin.s2 (i := .istore 4) (k := 2) (pc' := 97) (lv' := [(4, .int 0), (0, .ref 83), (1, .int l1), (2, .int l2), (3, .int l3)]) (st' := []) (by decide +kernel) rfl rfl ?_
      exact ab_fin.lv ⟨(List.forall_mem_cons.mpr ⟨(List.Mem.tail _ (List.Mem.head _)), (List.forall_mem_cons.mpr ⟨(List.Mem.tail _ (List.Mem.tail _ (List.Mem.head _))), (List.forall_mem_cons.mpr ⟨(List.Mem.tail _ (List.Mem.tail _ (List.Mem.tail _ (List.Mem.head _)))), (List.forall_mem_cons.mpr ⟨(List.Mem.tail _ (List.Mem.tail _ (List.Mem.tail _ (List.Mem.tail _ (List.Mem.head _))))), (List.forall_mem_cons.mpr ⟨(List.Mem.head _), (fun _ h => absurd h List.not_mem_nil)⟩)⟩)⟩)⟩)⟩), (show ([4, 0, 1, 2, 3] : List Nat).Nodup from by decide)⟩ w
theorem T_X4_goOnInside_97 {Z : zT} {d : Nat} {σ : Sg} {l1 : Int32} {l2 : Int32} {l3 : Int32} {l4 : Int32} {K : kS} (F : FX ΦC σ.sh σ.r) (w : C_X4_inFrame_0 Z d σ l1 5 (yI K fun v3 τ1 => C_X4_inFrame_0 Z d τ1 l1 0 (yI K fun v6 τ4 => (¬ v3 = 3 → C_X4_goOnInside_153 Z (d + 1) τ4 l2 l3 l4 v3 v6 K) ∧ (v3 = 3 → C_X0_rowSize_0 Z d τ4 l3 3 (yI K fun v9 τ7 => (l4 < v9 → C_X4_goOnInside_153 Z (d + 1) τ7 l2 l3 l4 v3 v6 K) ∧ (¬ l4 < v9 → ib (l2 + (7 : Int32)) 832 ∧ (C_X4_push_0 Z d τ7 (τ7.l 94 ((l2 + (7 : Int32)).toNatClampNeg)) (yN K fun τ11 => K (.inl none) (τ11.wi 83 7 v6))))))))) : C_X4_goOnInside_97 Z (d + 1) σ l1 l2 l3 l4 K := by
  unfold C_X4_goOnInside_97
  refine ab_fin.s2 (i := .aload_n 0) (k := 1) (pc' := 98) (lv' := [(0, .ref 83), (1, .int l1), (2, .int l2), (3, .int l3), (4, .int l4)]) (st' := [.ref 83]) (by decide +kernel) rfl rfl ?_
  refine ab_fin.s2 (i := .iload_n 1) (k := 1) (pc' := 99) (lv' := [(0, .ref 83), (1, .int l1), (2, .int l2), (3, .int l3), (4, .int l4)]) (st' := [.int l1, .ref 83]) (by decide +kernel) rfl rfl ?_
  refine ab_fin.s1i (i := .iconst 5) (k := 1) (pc' := 100) (n := 5) (by decide +kernel) rfl (by decide +kernel) rfl ?_
  refine ab_fin.q_yI (i := .invokevirtual 218) (k := 3) (y := 1041) (As := [.ref 83, .int l1, .int 5]) (rest := []) (M' := (mX4_inFrame, [])) (lv2 := [(0, .ref 83), (1, .int l1), (2, .int 5)]) (pc' := 103) (X := K) (by decide +kernel) (ab_cv rfl rfl (conc_get (σ := σ) (F.s t0_83)) ⟨(Nat.le_of_ble_eq_true rfl), (Nat.le_of_ble_eq_true rfl)⟩ rfl) rfl (Nat.le_of_ble_eq_true rfl) rfl rfl (hY_no fun E => rfl) w (fun v3 τ1 F2 w => ?_)
  refine ab_fin.s2 (i := .istore 5) (k := 2) (pc' := 105) (lv' := [(5, .int v3), (0, .ref 83), (1, .int l1), (2, .int l2), (3, .int l3), (4, .int l4)]) (st' := []) (by decide +kernel) rfl rfl ?_
  refine ab_fin.s2 (i := .aload_n 0) (k := 1) (pc' := 106) (lv' := [(5, .int v3), (0, .ref 83), (1, .int l1), (2, .int l2), (3, .int l3), (4, .int l4)]) (st' := [.ref 83]) (by decide +kernel) rfl rfl ?_
  refine ab_fin.s2 (i := .iload_n 1) (k := 1) (pc' := 107) (lv' := [(5, .int v3), (0, .ref 83), (1, .int l1), (2, .int l2), (3, .int l3), (4, .int l4)]) (st' := [.int l1, .ref 83]) (by decide +kernel) rfl rfl ?_
  refine ab_fin.s1i (i := .iconst 0) (k := 1) (pc' := 108) (n := 0) (by decide +kernel) rfl (by decide +kernel) rfl ?_
  refine ab_fin.q_yI (i := .invokevirtual 218) (k := 3) (y := 1041) (As := [.ref 83, .int l1, .int 0]) (rest := []) (M' := (mX4_inFrame, [])) (lv2 := [(0, .ref 83), (1, .int l1), (2, .int 0)]) (pc' := 111) (X := K) (by decide +kernel) (ab_cv rfl rfl (conc_get (σ := τ1) (F2.s t0_83)) ⟨(Nat.le_of_ble_eq_true rfl), (Nat.le_of_ble_eq_true rfl)⟩ rfl) rfl (Nat.le_of_ble_eq_true rfl) rfl rfl (hY_no fun E => rfl) w (fun v6 τ4 F5 w => ?_)
  refine ab_fin.s2 (i := .istore 6) (k := 2) (pc' := 113) (lv' := [(6, .int v6), (5, .int v3), (0, .ref 83), (1, .int l1), (2, .int l2), (3, .int l3), (4, .int l4)]) (st' := []) (by decide +kernel) rfl rfl ?_
  refine ab_fin.s2 (i := .iload 5) (k := 2) (pc' := 115) (lv' := [(6, .int v6), (5, .int v3), (0, .ref 83), (1, .int l1), (2, .int l2), (3, .int l3), (4, .int l4)]) (st' := [.int v3]) (by decide +kernel) rfl rfl ?_
  refine ab_fin.s1i (i := .iconst 3) (k := 1) (pc' := 116) (n := 3) (by decide +kernel) rfl (by decide +kernel) rfl ?_
  refine ab_fin.br (c := ¬ v3 = 3) (i := .if_icmp .ne 37) (off := 37) (t := 153) (pc' := 119) (r := []) (by decide +kernel) rfl (by decide +kernel) rfl (fun q => ?_) (fun q => ?_)
  · replace w := w.1 q
    exact ab_fin.lv ⟨(List.forall_mem_cons.mpr ⟨(List.Mem.tail _ (List.Mem.tail _ (List.Mem.head _))), (List.forall_mem_cons.mpr ⟨(List.Mem.tail _ (List.Mem.tail _ (List.Mem.tail _ (List.Mem.tail _ (List.Mem.head _))))), (List.forall_mem_cons.mpr ⟨(List.Mem.tail _ (List.Mem.tail _ (List.Mem.tail _ (List.Mem.tail _ (List.Mem.tail _ (List.Mem.head _)))))), (List.forall_mem_cons.mpr ⟨(List.Mem.tail _ (List.Mem.tail _ (List.Mem.tail _ (List.Mem.tail _ (List.Mem.tail _ (List.Mem.tail _ (List.Mem.head _))))))), (List.forall_mem_cons.mpr ⟨(List.Mem.tail _ (List.Mem.head _)), (List.forall_mem_cons.mpr ⟨(List.Mem.head _), (fun _ h => absurd h List.not_mem_nil)⟩)⟩)⟩)⟩)⟩)⟩), (show ([6, 5, 0, 1, 2, 3, 4] : List Nat).Nodup from by decide)⟩ w
  · replace w := w.2 (Decidable.of_not_not q)
    refine ab_fin.s2 (i := .iload 4) (k := 2) (pc' := 121) (lv' := [(6, .int v6), (5, .int v3), (0, .ref 83), (1, .int l1), (2, .int l2), (3, .int l3), (4, .int l4)]) (st' := [.int l4]) (by decide +kernel) rfl rfl ?_
    refine ab_fin.s2 (i := .aload_n 0) (k := 1) (pc' := 122) (lv' := [(6, .int v6), (5, .int v3), (0, .ref 83), (1, .int l1), (2, .int l2), (3, .int l3), (4, .int l4)]) (st' := [.ref 83, .int l4]) (by decide +kernel) rfl rfl ?_
    refine ab_fin.q_rA (b := 84) (ix := 36) (ci := 5) (k := 1) (pc' := 125) (by decide +kernel) rfl (c_rA (F5.s t0_83) rfl (rC_5_1 F5 t0_83)) rfl ?_
    refine ab_fin.s2 (i := .iload_n 3) (k := 1) (pc' := 126) (lv' := [(6, .int v6), (5, .int v3), (0, .ref 83), (1, .int l1), (2, .int l2), (3, .int l3), (4, .int l4)]) (st' := [.int l3, .ref 84, .int l4]) (by decide +kernel) rfl rfl ?_
    refine ab_fin.s1i (i := .iconst 3) (k := 1) (pc' := 127) (n := 3) (by decide +kernel) rfl (by decide +kernel) rfl ?_
    refine ab_fin.q_yI (i := .invokevirtual 186) (k := 3) (y := 1) (As := [.ref 84, .int l3, .int 3]) (rest := [.int l4]) (M' := (mX0_rowSize, [])) (lv2 := [(0, .ref 84), (1, .int l3), (2, .int 3)]) (pc' := 130) (X := K) (by decide +kernel) (ab_cv rfl rfl (conc_get (σ := τ4) (F5.s t0_84)) ⟨(Nat.le_of_ble_eq_true rfl), (Nat.le_of_ble_eq_true rfl)⟩ rfl) rfl (Nat.le_of_ble_eq_true rfl) rfl rfl (hY_no fun E => rfl) w (fun v9 τ7 F8 w => ?_)
    refine ab_fin.br (c := l4 < v9) (i := .if_icmp .lt 23) (off := 23) (t := 153) (pc' := 133) (r := []) (by decide +kernel) rfl (by decide +kernel) rfl (fun q => ?_) (fun q => ?_)
    · replace w := w.1 q
      exact ab_fin.lv ⟨(List.forall_mem_cons.mpr ⟨(List.Mem.tail _ (List.Mem.tail _ (List.Mem.head _))), (List.forall_mem_cons.mpr ⟨(List.Mem.tail _ (List.Mem.tail _ (List.Mem.tail _ (List.Mem.tail _ (List.Mem.head _))))), (List.forall_mem_cons.mpr ⟨(List.Mem.tail _ (List.Mem.tail _ (List.Mem.tail _ (List.Mem.tail _ (List.Mem.tail _ (List.Mem.head _)))))), (List.forall_mem_cons.mpr ⟨(List.Mem.tail _ (List.Mem.tail _ (List.Mem.tail _ (List.Mem.tail _ (List.Mem.tail _ (List.Mem.tail _ (List.Mem.head _))))))), (List.forall_mem_cons.mpr ⟨(List.Mem.tail _ (List.Mem.head _)), (List.forall_mem_cons.mpr ⟨(List.Mem.head _), (fun _ h => absurd h List.not_mem_nil)⟩)⟩)⟩)⟩)⟩)⟩), (show ([6, 5, 0, 1, 2, 3, 4] : List Nat).Nodup from by decide)⟩ w
    · replace w := w.2 q
      refine ab_fin.s2 (i := .aload_n 0) (k := 1) (pc' := 134) (lv' := [(6, .int v6), (5, .int v3), (0, .ref 83), (1, .int l1), (2, .int l2), (3, .int l3), (4, .int l4)]) (st' := [.ref 83]) (by decide +kernel) rfl rfl ?_
      refine ab_fin.s2 (i := .aload_n 0) (k := 1) (pc' := 135) (lv' := [(6, .int v6), (5, .int v3), (0, .ref 83), (1, .int l1), (2, .int l2), (3, .int l3), (4, .int l4)]) (st' := [.ref 83, .ref 83]) (by decide +kernel) rfl rfl ?_
      refine ab_fin.q_rA (b := 94) (ix := 15) (ci := 5) (k := 3) (pc' := 138) (by decide +kernel) rfl (c_rA (F8.s t0_83) rfl (rC_5_3 F8 t0_83)) rfl ?_
      refine ab_fin.s2 (i := .iload_n 2) (k := 1) (pc' := 139) (lv' := [(6, .int v6), (5, .int v3), (0, .ref 83), (1, .int l1), (2, .int l2), (3, .int l3), (4, .int l4)]) (st' := [.int l2, .ref 94, .ref 83]) (by decide +kernel) rfl rfl ?_
      refine ab_fin.s1i (i := .bipush 7) (k := 2) (pc' := 141) (n := 7) (by decide +kernel) rfl (by decide +kernel) rfl ?_
      refine ab_fin.s1 (i := .iadd) (k := 1) (pc' := 142) (st' := [.int (l2 + (7 : Int32)), .ref 94, .ref 83]) (by decide +kernel) rfl rfl ?_
      obtain ⟨e10, w⟩ := w
      refine ab_fin.q_eL (x := (τ7.l 94 ((l2 + (7 : Int32)).toNatClampNeg))) (pc' := 143) (by decide +kernel) (c_eL' (F8.s t0_94) e10 rfl) rfl ?_
      refine ab_fin.q_yN (i := .invokevirtual 147) (k := 3) (y := 1030) (As := [.ref 83, .long (τ7.l 94 ((l2 + (7 : Int32)).toNatClampNeg))]) (rest := []) (M' := (mX4_push, [])) (lv2 := [(0, .ref 83), (1, .long (τ7.l 94 ((l2 + (7 : Int32)).toNatClampNeg)))]) (pc' := 146) (X := K) (by decide +kernel) (ab_cv rfl rfl (conc_get (σ := τ7) (F8.s t0_83)) ⟨(Nat.le_of_ble_eq_true rfl), (Nat.le_of_ble_eq_true rfl)⟩ rfl) rfl (Nat.le_of_ble_eq_true rfl) rfl rfl (hY_no fun E => rfl) w (fun τ11 F12 w => ?_)
      refine ab_fin.s2 (i := .aload_n 0) (k := 1) (pc' := 147) (lv' := [(6, .int v6), (5, .int v3), (0, .ref 83), (1, .int l1), (2, .int l2), (3, .int l3), (4, .int l4)]) (st' := [.ref 83]) (by decide +kernel) rfl rfl ?_
      refine ab_fin.s2 (i := .iload 6) (k := 2) (pc' := 149) (lv' := [(6, .int v6), (5, .int v3), (0, .ref 83), (1, .int l1), (2, .int l2), (3, .int l3), (4, .int l4)]) (st' := [.int v6, .ref 83]) (by decide +kernel) rfl rfl ?_
      refine ab_fin.q_pF (ix := 53) (ci := 5) (k := 7) (h1 := conc (τ11.wi 83 7 v6)) (pc' := 152) (by decide +kernel) rfl (c_pI (v := v6) (F12.s t0_83) rfl) rfl rfl rfl ?_
      exact ab_fin.q_ret (i := .return_) (k := 1) (v := none) (by decide +kernel) rfl F12 w
theorem T_X4_goOnInside_153 {Z : zT} {d : Nat} {σ : Sg} {l2 : Int32} {l3 : Int32} {l4 : Int32} {l5 : Int32} {l6 : Int32} {K : kS} (F : FX ΦC σ.sh σ.r) (w : ib (l2 + (6 : Int32)) 832 ∧ (cpb (l2 + (8 : Int32)) (0 : Int32) (3 : Int32) 832 3 ∧ ((¬ l5 = 3 → C_X4_beginMethod_0 Z d ((σ.wl 94 ((l2 + (6 : Int32)).toNatClampNeg) ((Int32.toInt64 (l4 + (1 : Int32))))).cpL 94 ((l2 + (8 : Int32)).toNatClampNeg) 95 ((0 : Int32).toNatClampNeg) ((3 : Int32).toNatClampNeg)) l3 l5 l4 l6 1 (yN K fun τ4 => K (.inl none) τ4)) ∧ (l5 = 3 → C_X0_rowSize_0 Z d ((σ.wl 94 ((l2 + (6 : Int32)).toNatClampNeg) ((Int32.toInt64 (l4 + (1 : Int32))))).cpL 94 ((l2 + (8 : Int32)).toNatClampNeg) 95 ((0 : Int32).toNatClampNeg) ((3 : Int32).toNatClampNeg)) l3 3 (yI K fun v8 τ6 => C_X4_beginMethod_0 Z d τ6 l3 l5 ((v8 - (1 : Int32)) - l4) l6 1 (yN K fun τ9 => K (.inl none) τ9)))))) : C_X4_goOnInside_153 Z (d + 1) σ l2 l3 l4 l5 l6 K := by
  unfold C_X4_goOnInside_153
  refine ab_fin.s2 (i := .aload_n 0) (k := 1) (pc' := 154) (lv' := [(0, .ref 83), (2, .int l2), (3, .int l3), (4, .int l4), (5, .int l5), (6, .int l6)]) (st' := [.ref 83]) (by decide +kernel) rfl rfl ?_
  refine ab_fin.q_rA (b := 94) (ix := 15) (ci := 5) (k := 3) (pc' := 157) (by decide +kernel) rfl (c_rA (F.s t0_83) rfl (rC_5_3 F t0_83)) rfl ?_
  refine ab_fin.s2 (i := .iload_n 2) (k := 1) (pc' := 158) (lv' := [(0, .ref 83), (2, .int l2), (3, .int l3), (4, .int l4), (5, .int l5), (6, .int l6)]) (st' := [.int l2, .ref 94]) (by decide +kernel) rfl rfl ?_
  refine ab_fin.s1i (i := .bipush 6) (k := 2) (pc' := 160) (n := 6) (by decide +kernel) rfl (by decide +kernel) rfl ?_
  refine ab_fin.s1 (i := .iadd) (k := 1) (pc' := 161) (st' := [.int (l2 + (6 : Int32)), .ref 94]) (by decide +kernel) rfl rfl ?_
  refine ab_fin.s2 (i := .iload 4) (k := 2) (pc' := 163) (lv' := [(0, .ref 83), (2, .int l2), (3, .int l3), (4, .int l4), (5, .int l5), (6, .int l6)]) (st' := [.int l4, .int (l2 + (6 : Int32)), .ref 94]) (by decide +kernel) rfl rfl ?_
  refine ab_fin.s1i (i := .iconst 1) (k := 1) (pc' := 164) (n := 1) (by decide +kernel) rfl (by decide +kernel) rfl ?_
  refine ab_fin.s1 (i := .iadd) (k := 1) (pc' := 165) (st' := [.int (l4 + (1 : Int32)), .int (l2 + (6 : Int32)), .ref 94]) (by decide +kernel) rfl rfl ?_
  refine ab_fin.s1 (i := .i2l) (k := 1) (pc' := 166) (st' := [.long ((Int32.toInt64 (l4 + (1 : Int32)))), .int (l2 + (6 : Int32)), .ref 94]) (by decide +kernel) rfl rfl ?_
  obtain ⟨e1, w⟩ := w
  refine ab_fin.q_sL (h1 := conc (σ.wl 94 ((l2 + (6 : Int32)).toNatClampNeg) ((Int32.toInt64 (l4 + (1 : Int32)))))) (pc' := 167) (by decide +kernel) (c_sL' (F.s t0_94) e1 rfl) rfl ?_
  refine ab_fin.s2 (i := .aload_n 0) (k := 1) (pc' := 168) (lv' := [(0, .ref 83), (2, .int l2), (3, .int l3), (4, .int l4), (5, .int l5), (6, .int l6)]) (st' := [.ref 83]) (by decide +kernel) rfl rfl ?_
  refine ab_fin.q_rA (b := 94) (ix := 15) (ci := 5) (k := 3) (pc' := 171) (by decide +kernel) rfl (c_rA (F.s t0_83) rfl (rC_5_3 F t0_83)) rfl ?_
  refine ab_fin.s2 (i := .iload_n 2) (k := 1) (pc' := 172) (lv' := [(0, .ref 83), (2, .int l2), (3, .int l3), (4, .int l4), (5, .int l5), (6, .int l6)]) (st' := [.int l2, .ref 94]) (by decide +kernel) rfl rfl ?_
  refine ab_fin.s1i (i := .bipush 8) (k := 2) (pc' := 174) (n := 8) (by decide +kernel) rfl (by decide +kernel) rfl ?_
  refine ab_fin.s1 (i := .iadd) (k := 1) (pc' := 175) (st' := [.int (l2 + (8 : Int32)), .ref 94]) (by decide +kernel) rfl rfl ?_
  refine ab_fin.s2 (i := .aload_n 0) (k := 1) (pc' := 176) (lv' := [(0, .ref 83), (2, .int l2), (3, .int l3), (4, .int l4), (5, .int l5), (6, .int l6)]) (st' := [.ref 83, .int (l2 + (8 : Int32)), .ref 94]) (by decide +kernel) rfl rfl ?_
  refine ab_fin.q_rA (b := 95) (ix := 18) (ci := 5) (k := 4) (pc' := 179) (by decide +kernel) rfl (c_rA (F.s t0_83) rfl (rC_5_4 F t0_83)) rfl ?_
  refine ab_fin.s1i (i := .iconst 0) (k := 1) (pc' := 180) (n := 0) (by decide +kernel) rfl (by decide +kernel) rfl ?_
  refine ab_fin.s1i (i := .iconst 3) (k := 1) (pc' := 181) (n := 3) (by decide +kernel) rfl (by decide +kernel) rfl ?_
  obtain ⟨e2, w⟩ := w
  refine ab_fin.cpy (i := .invokestatic 203) (k := 3) (pc' := 184) (h1 := conc ((σ.wl 94 ((l2 + (6 : Int32)).toNatClampNeg) ((Int32.toInt64 (l4 + (1 : Int32))))).cpL 94 ((l2 + (8 : Int32)).toNatClampNeg) 95 ((0 : Int32).toNatClampNeg) ((3 : Int32).toNatClampNeg))) (st' := []) (by decide +kernel) (ab_cpT rfl (c_cpL (F.s t0_94) (F.s t0_95) e2 (by decide))) rfl ?_
  refine ab_fin.s2 (i := .iload 5) (k := 2) (pc' := 186) (lv' := [(0, .ref 83), (2, .int l2), (3, .int l3), (4, .int l4), (5, .int l5), (6, .int l6)]) (st' := [.int l5]) (by decide +kernel) rfl rfl ?_
  refine ab_fin.s1i (i := .iconst 3) (k := 1) (pc' := 187) (n := 3) (by decide +kernel) rfl (by decide +kernel) rfl ?_
  refine ab_fin.br (c := ¬ l5 = 3) (i := .if_icmp .ne 20) (off := 20) (t := 207) (pc' := 190) (r := []) (by decide +kernel) rfl (by decide +kernel) rfl (fun q => ?_) (fun q => ?_)
  · replace w := w.1 q
    refine ab_fin.s2 (i := .iload 4) (k := 2) (pc' := 209) (lv' := [(0, .ref 83), (2, .int l2), (3, .int l3), (4, .int l4), (5, .int l5), (6, .int l6)]) (st' := [.int l4]) (by decide +kernel) rfl rfl ?_
    refine ab_fin.s2 (i := .istore 7) (k := 2) (pc' := 211) (lv' := [(7, .int l4), (0, .ref 83), (2, .int l2), (3, .int l3), (4, .int l4), (5, .int l5), (6, .int l6)]) (st' := []) (by decide +kernel) rfl rfl ?_
    refine ab_fin.s2 (i := .aload_n 0) (k := 1) (pc' := 212) (lv' := [(7, .int l4), (0, .ref 83), (2, .int l2), (3, .int l3), (4, .int l4), (5, .int l5), (6, .int l6)]) (st' := [.ref 83]) (by decide +kernel) rfl rfl ?_
    refine ab_fin.s2 (i := .iload_n 3) (k := 1) (pc' := 213) (lv' := [(7, .int l4), (0, .ref 83), (2, .int l2), (3, .int l3), (4, .int l4), (5, .int l5), (6, .int l6)]) (st' := [.int l3, .ref 83]) (by decide +kernel) rfl rfl ?_
    refine ab_fin.s2 (i := .iload 5) (k := 2) (pc' := 215) (lv' := [(7, .int l4), (0, .ref 83), (2, .int l2), (3, .int l3), (4, .int l4), (5, .int l5), (6, .int l6)]) (st' := [.int l5, .int l3, .ref 83]) (by decide +kernel) rfl rfl ?_
    refine ab_fin.s2 (i := .iload 7) (k := 2) (pc' := 217) (lv' := [(7, .int l4), (0, .ref 83), (2, .int l2), (3, .int l3), (4, .int l4), (5, .int l5), (6, .int l6)]) (st' := [.int l4, .int l5, .int l3, .ref 83]) (by decide +kernel) rfl rfl ?_
    refine ab_fin.s2 (i := .iload 6) (k := 2) (pc' := 219) (lv' := [(7, .int l4), (0, .ref 83), (2, .int l2), (3, .int l3), (4, .int l4), (5, .int l5), (6, .int l6)]) (st' := [.int l6, .int l4, .int l5, .int l3, .ref 83]) (by decide +kernel) rfl rfl ?_
    refine ab_fin.s1i (i := .iconst 1) (k := 1) (pc' := 220) (n := 1) (by decide +kernel) rfl (by decide +kernel) rfl ?_
    refine ab_fin.q_yN (i := .invokevirtual 190) (k := 3) (y := 1043) (As := [.ref 83, .int l3, .int l5, .int l4, .int l6, .int 1]) (rest := []) (M' := (mX4_beginMethod, [])) (lv2 := [(0, .ref 83), (1, .int l3), (2, .int l5), (3, .int l4), (4, .int l6), (5, .int 1)]) (pc' := 223) (X := K) (by decide +kernel) (ab_cv rfl rfl (conc_get (σ := ((σ.wl 94 ((l2 + (6 : Int32)).toNatClampNeg) ((Int32.toInt64 (l4 + (1 : Int32))))).cpL 94 ((l2 + (8 : Int32)).toNatClampNeg) 95 ((0 : Int32).toNatClampNeg) ((3 : Int32).toNatClampNeg))) (F.s t0_83)) ⟨(Nat.le_of_ble_eq_true rfl), (Nat.le_of_ble_eq_true rfl)⟩ rfl) rfl (Nat.le_of_ble_eq_true rfl) rfl rfl (hY_no fun E => rfl) w (fun τ4 F5 w => ?_)
    exact ab_fin.q_ret (i := .return_) (k := 1) (v := none) (by decide +kernel) rfl F5 w
  · replace w := w.2 (Decidable.of_not_not q)
    refine ab_fin.s2 (i := .aload_n 0) (k := 1) (pc' := 191) (lv' := [(0, .ref 83), (2, .int l2), (3, .int l3), (4, .int l4), (5, .int l5), (6, .int l6)]) (st' := [.ref 83]) (by decide +kernel) rfl rfl ?_
    refine ab_fin.q_rA (b := 84) (ix := 36) (ci := 5) (k := 1) (pc' := 194) (by decide +kernel) rfl (c_rA (F.s t0_83) rfl (rC_5_1 F t0_83)) rfl ?_
    refine ab_fin.s2 (i := .iload_n 3) (k := 1) (pc' := 195) (lv' := [(0, .ref 83), (2, .int l2), (3, .int l3), (4, .int l4), (5, .int l5), (6, .int l6)]) (st' := [.int l3, .ref 84]) (by decide +kernel) rfl rfl ?_
    refine ab_fin.s1i (i := .iconst 3) (k := 1) (pc' := 196) (n := 3) (by decide +kernel) rfl (by decide +kernel) rfl ?_
    refine ab_fin.q_yI (i := .invokevirtual 186) (k := 3) (y := 1) (As := [.ref 84, .int l3, .int 3]) (rest := []) (M' := (mX0_rowSize, [])) (lv2 := [(0, .ref 84), (1, .int l3), (2, .int 3)]) (pc' := 199) (X := K) (by decide +kernel) (ab_cv rfl rfl (conc_get (σ := ((σ.wl 94 ((l2 + (6 : Int32)).toNatClampNeg) ((Int32.toInt64 (l4 + (1 : Int32))))).cpL 94 ((l2 + (8 : Int32)).toNatClampNeg) 95 ((0 : Int32).toNatClampNeg) ((3 : Int32).toNatClampNeg))) (F.s t0_84)) ⟨(Nat.le_of_ble_eq_true rfl), (Nat.le_of_ble_eq_true rfl)⟩ rfl) rfl (Nat.le_of_ble_eq_true rfl) rfl rfl (hY_no fun E => rfl) w (fun v8 τ6 F7 w => ?_)
    refine ab_fin.s1i (i := .iconst 1) (k := 1) (pc' := 200) (n := 1) (by decide +kernel) rfl (by decide +kernel) rfl ?_
    refine ab_fin.s1 (i := .isub) (k := 1) (pc' := 201) (st' := [.int (v8 - (1 : Int32))]) (by decide +kernel) rfl rfl ?_
    refine ab_fin.s2 (i := .iload 4) (k := 2) (pc' := 203) (lv' := [(0, .ref 83), (2, .int l2), (3, .int l3), (4, .int l4), (5, .int l5), (6, .int l6)]) (st' := [.int l4, .int (v8 - (1 : Int32))]) (by decide +kernel) rfl rfl ?_
    refine ab_fin.s1 (i := .isub) (k := 1) (pc' := 204) (st' := [.int ((v8 - (1 : Int32)) - l4)]) (by decide +kernel) rfl rfl ?_
    refine ab_fin.s3 (i := .goto 5) (k := 3) (t := 209) (st' := [.int ((v8 - (1 : Int32)) - l4)]) (by decide +kernel) (ab_gto (by decide +kernel)) ?_
    refine ab_fin.s2 (i := .istore 7) (k := 2) (pc' := 211) (lv' := [(7, .int ((v8 - (1 : Int32)) - l4)), (0, .ref 83), (2, .int l2), (3, .int l3), (4, .int l4), (5, .int l5), (6, .int l6)]) (st' := []) (by decide +kernel) rfl rfl ?_
    refine ab_fin.s2 (i := .aload_n 0) (k := 1) (pc' := 212) (lv' := [(7, .int ((v8 - (1 : Int32)) - l4)), (0, .ref 83), (2, .int l2), (3, .int l3), (4, .int l4), (5, .int l5), (6, .int l6)]) (st' := [.ref 83]) (by decide +kernel) rfl rfl ?_
    refine ab_fin.s2 (i := .iload_n 3) (k := 1) (pc' := 213) (lv' := [(7, .int ((v8 - (1 : Int32)) - l4)), (0, .ref 83), (2, .int l2), (3, .int l3), (4, .int l4), (5, .int l5), (6, .int l6)]) (st' := [.int l3, .ref 83]) (by decide +kernel) rfl rfl ?_
    refine ab_fin.s2 (i := .iload 5) (k := 2) (pc' := 215) (lv' := [(7, .int ((v8 - (1 : Int32)) - l4)), (0, .ref 83), (2, .int l2), (3, .int l3), (4, .int l4), (5, .int l5), (6, .int l6)]) (st' := [.int l5, .int l3, .ref 83]) (by decide +kernel) rfl rfl ?_
    refine ab_fin.s2 (i := .iload 7) (k := 2) (pc' := 217) (lv' := [(7, .int ((v8 - (1 : Int32)) - l4)), (0, .ref 83), (2, .int l2), (3, .int l3), (4, .int l4), (5, .int l5), (6, .int l6)]) (st' := [.int ((v8 - (1 : Int32)) - l4), .int l5, .int l3, .ref 83]) (by decide +kernel) rfl rfl ?_
    refine ab_fin.s2 (i := .iload 6) (k := 2) (pc' := 219) (lv' := [(7, .int ((v8 - (1 : Int32)) - l4)), (0, .ref 83), (2, .int l2), (3, .int l3), (4, .int l4), (5, .int l5), (6, .int l6)]) (st' := [.int l6, .int ((v8 - (1 : Int32)) - l4), .int l5, .int l3, .ref 83]) (by decide +kernel) rfl rfl ?_
    refine ab_fin.s1i (i := .iconst 1) (k := 1) (pc' := 220) (n := 1) (by decide +kernel) rfl (by decide +kernel) rfl ?_
    refine ab_fin.q_yN (i := .invokevirtual 190) (k := 3) (y := 1043) (As := [.ref 83, .int l3, .int l5, .int ((v8 - (1 : Int32)) - l4), .int l6, .int 1]) (rest := []) (M' := (mX4_beginMethod, [])) (lv2 := [(0, .ref 83), (1, .int l3), (2, .int l5), (3, .int ((v8 - (1 : Int32)) - l4)), (4, .int l6), (5, .int 1)]) (pc' := 223) (X := K) (by decide +kernel) (ab_cv rfl rfl (conc_get (σ := τ6) (F7.s t0_83)) ⟨(Nat.le_of_ble_eq_true rfl), (Nat.le_of_ble_eq_true rfl)⟩ rfl) rfl (Nat.le_of_ble_eq_true rfl) rfl rfl (hY_no fun E => rfl) w (fun τ9 F10 w => ?_)
    exact ab_fin.q_ret (i := .return_) (k := 1) (v := none) (by decide +kernel) rfl F10 w
theorem T_X4_plainTurns_0 {Z : zT} {d : Nat} {σ : Sg} {l1 : Int32} {K : kS} (F : FX ΦC σ.sh σ.r) (w : C_X0_inRow_0 Z d σ l1 0 0 (yI K fun v3 τ1 => ib v3 122 ∧ (ib (τ1.i 11 v3.toNatClampNeg) 24 ∧ ((¬ (τ1.i 32 ((τ1.i 11 v3.toNatClampNeg).toNatClampNeg)) = 0 → C_X0_rowSize_0 Z d τ1 l1 0 (yI K fun v8 τ6 => K (.inl (some (.int v8))) τ6)) ∧ ((τ1.i 32 ((τ1.i 11 v3.toNatClampNeg).toNatClampNeg)) = 0 → K (.inl (some (.int 1))) τ1))))) : C_X4_plainTurns_0 Z (d + 1) σ l1 K := by
  unfold C_X4_plainTurns_0
  refine ab_fin.s2 (i := .aload_n 0) (k := 1) (pc' := 1) (lv' := [(0, .ref 83), (1, .int l1)]) (st' := [.ref 83]) (by decide +kernel) rfl rfl ?_
  refine ab_fin.q_rA (b := 1) (ix := 32) (ci := 5) (k := 0) (pc' := 4) (by decide +kernel) rfl (c_rA (F.s t0_83) rfl (rC_5_0 F t0_83)) rfl ?_
  refine ab_fin.q_rA (b := 10) (ix := 209) (ci := 12) (k := 1) (pc' := 7) (by decide +kernel) rfl (c_rA (F.s t0_1) rfl (rC_12_1 F t0_1)) rfl ?_
  refine ab_fin.q_rA (b := 11) (ix := 221) (ci := 6) (k := 1) (pc' := 10) (by decide +kernel) rfl (c_rA (F.s t0_10) rfl (rC_6_1 F t0_10)) rfl ?_
  refine ab_fin.s2 (i := .aload_n 0) (k := 1) (pc' := 11) (lv' := [(0, .ref 83), (1, .int l1)]) (st' := [.ref 83, .ref 11]) (by decide +kernel) rfl rfl ?_
  refine ab_fin.q_rA (b := 84) (ix := 36) (ci := 5) (k := 1) (pc' := 14) (by decide +kernel) rfl (c_rA (F.s t0_83) rfl (rC_5_1 F t0_83)) rfl ?_
  refine ab_fin.s2 (i := .iload_n 1) (k := 1) (pc' := 15) (lv' := [(0, .ref 83), (1, .int l1)]) (st' := [.int l1, .ref 84, .ref 11]) (by decide +kernel) rfl rfl ?_
  refine ab_fin.s1i (i := .iconst 0) (k := 1) (pc' := 16) (n := 0) (by decide +kernel) rfl (by decide +kernel) rfl ?_
  refine ab_fin.s1i (i := .iconst 0) (k := 1) (pc' := 17) (n := 0) (by decide +kernel) rfl (by decide +kernel) rfl ?_
  refine ab_fin.q_yI (i := .invokevirtual 200) (k := 3) (y := 3) (As := [.ref 84, .int l1, .int 0, .int 0]) (rest := [.ref 11]) (M' := (mX0_inRow, [])) (lv2 := [(0, .ref 84), (1, .int l1), (2, .int 0), (3, .int 0)]) (pc' := 20) (X := K) (by decide +kernel) (ab_cv rfl rfl (conc_get (σ := σ) (F.s t0_84)) ⟨(Nat.le_of_ble_eq_true rfl), (Nat.le_of_ble_eq_true rfl)⟩ rfl) rfl (Nat.le_of_ble_eq_true rfl) rfl rfl (hY_no fun E => rfl) w (fun v3 τ1 F2 w => ?_)
  obtain ⟨e4, w⟩ := w
  refine ab_fin.q_eI (x := (τ1.i 11 v3.toNatClampNeg)) (pc' := 21) (by decide +kernel) (c_eI' (F2.s t0_11) e4 rfl) rfl ?_
  refine ab_fin.s2 (i := .istore_n 2) (k := 1) (pc' := 22) (lv' := [(2, .int (τ1.i 11 v3.toNatClampNeg)), (0, .ref 83), (1, .int l1)]) (st' := []) (by decide +kernel) rfl rfl ?_
  refine ab_fin.s2 (i := .aload_n 0) (k := 1) (pc' := 23) (lv' := [(2, .int (τ1.i 11 v3.toNatClampNeg)), (0, .ref 83), (1, .int l1)]) (st' := [.ref 83]) (by decide +kernel) rfl rfl ?_
  refine ab_fin.q_rA (b := 1) (ix := 32) (ci := 5) (k := 0) (pc' := 26) (by decide +kernel) rfl (c_rA (F2.s t0_83) rfl (rC_5_0 F2 t0_83)) rfl ?_
  refine ab_fin.q_rA (b := 32) (ix := 227) (ci := 12) (k := 7) (pc' := 29) (by decide +kernel) rfl (c_rA (F2.s t0_1) rfl (rC_12_7 F2 t0_1)) rfl ?_
  refine ab_fin.s2 (i := .iload_n 2) (k := 1) (pc' := 30) (lv' := [(2, .int (τ1.i 11 v3.toNatClampNeg)), (0, .ref 83), (1, .int l1)]) (st' := [.int (τ1.i 11 v3.toNatClampNeg), .ref 32]) (by decide +kernel) rfl rfl ?_
  obtain ⟨e5, w⟩ := w
  refine ab_fin.q_eI (x := (τ1.i 32 ((τ1.i 11 v3.toNatClampNeg).toNatClampNeg))) (pc' := 31) (by decide +kernel) (c_eI' (F2.s t0_32) e5 rfl) rfl ?_
  refine ab_fin.br (c := ¬ (τ1.i 32 ((τ1.i 11 v3.toNatClampNeg).toNatClampNeg)) = 0) (i := .ifCond .ne 7) (off := 7) (t := 38) (pc' := 34) (r := []) (by decide +kernel) rfl (by decide +kernel) rfl (fun q => ?_) (fun q => ?_)
  · replace w := w.1 q
    refine ab_fin.s2 (i := .aload_n 0) (k := 1) (pc' := 39) (lv' := [(2, .int (τ1.i 11 v3.toNatClampNeg)), (0, .ref 83), (1, .int l1)]) (st' := [.ref 83]) (by decide +kernel) rfl rfl ?_
    refine ab_fin.q_rA (b := 84) (ix := 36) (ci := 5) (k := 1) (pc' := 42) (by decide +kernel) rfl (c_rA (F2.s t0_83) rfl (rC_5_1 F2 t0_83)) rfl ?_
    refine ab_fin.s2 (i := .iload_n 1) (k := 1) (pc' := 43) (lv' := [(2, .int (τ1.i 11 v3.toNatClampNeg)), (0, .ref 83), (1, .int l1)]) (st' := [.int l1, .ref 84]) (by decide +kernel) rfl rfl ?_
    refine ab_fin.s1i (i := .iconst 0) (k := 1) (pc' := 44) (n := 0) (by decide +kernel) rfl (by decide +kernel) rfl ?_
    refine ab_fin.q_yI (i := .invokevirtual 186) (k := 3) (y := 1) (As := [.ref 84, .int l1, .int 0]) (rest := []) (M' := (mX0_rowSize, [])) (lv2 := [(0, .ref 84), (1, .int l1), (2, .int 0)]) (pc' := 47) (X := K) (by decide +kernel) (ab_cv rfl rfl (conc_get (σ := τ1) (F2.s t0_84)) ⟨(Nat.le_of_ble_eq_true rfl), (Nat.le_of_ble_eq_true rfl)⟩ rfl) rfl (Nat.le_of_ble_eq_true rfl) rfl rfl (hY_no fun E => rfl) w (fun v8 τ6 F7 w => ?_)
    exact ab_fin.q_ret (i := .ireturn) (k := 1) (v := some (.int v8)) (by decide +kernel) rfl F7 w
  · replace w := w.2 (Decidable.of_not_not q)
    refine ab_fin.s1i (i := .iconst 1) (k := 1) (pc' := 35) (n := 1) (by decide +kernel) rfl (by decide +kernel) rfl ?_
    refine ab_fin.s3 (i := .goto 12) (k := 3) (t := 47) (st' := [.int 1]) (by decide +kernel) (ab_gto (by decide +kernel)) ?_
    exact ab_fin.q_ret (i := .ireturn) (k := 1) (v := some (.int 1)) (by decide +kernel) rfl F2 w
theorem T_X4_endMethod_0 {Z : zT} {d : Nat} {σ : Sg} {l1 : Int64} {K : kS} (F : FX ΦC σ.sh σ.r) (w : (¬ (σ.i 83 6) = 0 → C_X4_inFrame_0 Z d (σ.wi 83 6 ((σ.i 83 6) - (1 : Int32))) (σ.i 83 6) 4 (yI K fun v3 τ1 => (¬ v3 = 0 → C_X4_inFrame_0 Z d τ1 (σ.i 83 6) 5 (yI K fun v6 τ4 => (¬ v6 = 0 → C_X4_goOnInside_0 Z d τ4  (yN K fun τ7 => K (.inl none) τ7)) ∧ (v6 = 0 → C_X4_joinValue_0 Z d τ4 (σ.i 83 6) l1 (yN K fun τ9 => C_X4_goOnInside_0 Z d τ9  (yN K fun τ11 => K (.inl none) τ11))))) ∧ (v3 = 0 → C_X4_inFrame_0 Z d τ1 (σ.i 83 6) 0 (yI K fun v15 τ13 => C_X4_push_0 Z d (τ13.wi 83 7 v15) l1 (yN K fun τ16 => K (.inl none) τ16))))) ∧ ((σ.i 83 6) = 0 → C_X4_finish_0 Z d σ 0 1 l1 (yN K fun τ18 => K (.inl none) τ18))) : C_X4_endMethod_0 Z (d + 1) σ l1 K := by
  unfold C_X4_endMethod_0
  refine ab_fin.s2 (i := .aload_n 0) (k := 1) (pc' := 1) (lv' := [(0, .ref 83), (1, .long l1)]) (st' := [.ref 83]) (by decide +kernel) rfl rfl ?_
  refine ab_fin.q_rI (x := (σ.i 83 6)) (ix := 80) (ci := 5) (k := 6) (pc' := 4) (by decide +kernel) rfl (c_rI (F.s t0_83) rfl) rfl ?_
  refine ab_fin.br (c := ¬ (σ.i 83 6) = 0) (i := .ifCond .ne 11) (off := 11) (t := 15) (pc' := 7) (r := []) (by decide +kernel) rfl (by decide +kernel) rfl (fun q => ?_) (fun q => ?_)
  · replace w := w.1 q
    refine ab_fin.s2 (i := .aload_n 0) (k := 1) (pc' := 16) (lv' := [(0, .ref 83), (1, .long l1)]) (st' := [.ref 83]) (by decide +kernel) rfl rfl ?_
    refine ab_fin.q_rI (x := (σ.i 83 6)) (ix := 80) (ci := 5) (k := 6) (pc' := 19) (by decide +kernel) rfl (c_rI (F.s t0_83) rfl) rfl ?_
    refine ab_fin.s2 (i := .istore_n 3) (k := 1) (pc' := 20) (lv' := [(3, .int (σ.i 83 6)), (0, .ref 83), (1, .long l1)]) (st' := []) (by decide +kernel) rfl rfl ?_
    refine ab_fin.s2 (i := .aload_n 0) (k := 1) (pc' := 21) (lv' := [(3, .int (σ.i 83 6)), (0, .ref 83), (1, .long l1)]) (st' := [.ref 83]) (by decide +kernel) rfl rfl ?_
    refine ab_fin.s1 (i := .dup) (k := 1) (pc' := 22) (st' := [.ref 83, .ref 83]) (by decide +kernel) rfl rfl ?_
    refine ab_fin.q_rI (x := (σ.i 83 6)) (ix := 80) (ci := 5) (k := 6) (pc' := 25) (by decide +kernel) rfl (c_rI (F.s t0_83) rfl) rfl ?_
    refine ab_fin.s1i (i := .iconst 1) (k := 1) (pc' := 26) (n := 1) (by decide +kernel) rfl (by decide +kernel) rfl ?_
    refine ab_fin.s1 (i := .isub) (k := 1) (pc' := 27) (st' := [.int ((σ.i 83 6) - (1 : Int32)), .ref 83]) (by decide +kernel) rfl rfl ?_
    refine ab_fin.q_pF (ix := 80) (ci := 5) (k := 6) (h1 := conc (σ.wi 83 6 ((σ.i 83 6) - (1 : Int32)))) (pc' := 30) (by decide +kernel) rfl (c_pI (v := ((σ.i 83 6) - (1 : Int32))) (F.s t0_83) rfl) rfl rfl rfl ?_
    refine ab_fin.s2 (i := .aload_n 0) (k := 1) (pc' := 31) (lv' := [(3, .int (σ.i 83 6)), (0, .ref 83), (1, .long l1)]) (st' := [.ref 83]) (by decide +kernel) rfl rfl ?_
    refine ab_fin.s2 (i := .iload_n 3) (k := 1) (pc' := 32) (lv' := [(3, .int (σ.i 83 6)), (0, .ref 83), (1, .long l1)]) (st' := [.int (σ.i 83 6), .ref 83]) (by decide +kernel) rfl rfl ?_
    refine ab_fin.s1i (i := .iconst 4) (k := 1) (pc' := 33) (n := 4) (by decide +kernel) rfl (by decide +kernel) rfl ?_
    refine ab_fin.q_yI (i := .invokevirtual 218) (k := 3) (y := 1041) (As := [.ref 83, .int (σ.i 83 6), .int 4]) (rest := []) (M' := (mX4_inFrame, [])) (lv2 := [(0, .ref 83), (1, .int (σ.i 83 6)), (2, .int 4)]) (pc' := 36) (X := K) (by decide +kernel) (ab_cv rfl rfl (conc_get (σ := (σ.wi 83 6 ((σ.i 83 6) - (1 : Int32)))) (F.s t0_83)) ⟨(Nat.le_of_ble_eq_true rfl), (Nat.le_of_ble_eq_true rfl)⟩ rfl) rfl (Nat.le_of_ble_eq_true rfl) rfl rfl (hY_no fun E => rfl) w (fun v3 τ1 F2 w => ?_)
    refine ab_fin.br (c := ¬ v3 = 0) (i := .ifCond .ne 19) (off := 19) (t := 55) (pc' := 39) (r := []) (by decide +kernel) rfl (by decide +kernel) rfl (fun q => ?_) (fun q => ?_)
    · replace w := w.1 q
      refine ab_fin.s2 (i := .aload_n 0) (k := 1) (pc' := 56) (lv' := [(3, .int (σ.i 83 6)), (0, .ref 83), (1, .long l1)]) (st' := [.ref 83]) (by decide +kernel) rfl rfl ?_
      refine ab_fin.s2 (i := .iload_n 3) (k := 1) (pc' := 57) (lv' := [(3, .int (σ.i 83 6)), (0, .ref 83), (1, .long l1)]) (st' := [.int (σ.i 83 6), .ref 83]) (by decide +kernel) rfl rfl ?_
      refine ab_fin.s1i (i := .iconst 5) (k := 1) (pc' := 58) (n := 5) (by decide +kernel) rfl (by decide +kernel) rfl ?_
      refine ab_fin.q_yI (i := .invokevirtual 218) (k := 3) (y := 1041) (As := [.ref 83, .int (σ.i 83 6), .int 5]) (rest := []) (M' := (mX4_inFrame, [])) (lv2 := [(0, .ref 83), (1, .int (σ.i 83 6)), (2, .int 5)]) (pc' := 61) (X := K) (by decide +kernel) (ab_cv rfl rfl (conc_get (σ := τ1) (F2.s t0_83)) ⟨(Nat.le_of_ble_eq_true rfl), (Nat.le_of_ble_eq_true rfl)⟩ rfl) rfl (Nat.le_of_ble_eq_true rfl) rfl rfl (hY_no fun E => rfl) w (fun v6 τ4 F5 w => ?_)
      refine ab_fin.br (c := ¬ v6 = 0) (i := .ifCond .ne 9) (off := 9) (t := 70) (pc' := 64) (r := []) (by decide +kernel) rfl (by decide +kernel) rfl (fun q => ?_) (fun q => ?_)
      · replace w := w.1 q
        refine ab_fin.s2 (i := .aload_n 0) (k := 1) (pc' := 71) (lv' := [(3, .int (σ.i 83 6)), (0, .ref 83), (1, .long l1)]) (st' := [.ref 83]) (by decide +kernel) rfl rfl ?_
        refine ab_fin.q_yN (i := .invokevirtual 235) (k := 3) (y := 1046) (As := [.ref 83]) (rest := []) (M' := (mX4_goOnInside, [])) (lv2 := [(0, .ref 83)]) (pc' := 74) (X := K) (by decide +kernel) (ab_cv rfl rfl (conc_get (σ := τ4) (F5.s t0_83)) ⟨(Nat.le_of_ble_eq_true rfl), (Nat.le_of_ble_eq_true rfl)⟩ rfl) rfl (Nat.le_of_ble_eq_true rfl) rfl rfl (hY_no fun E => rfl) w (fun τ7 F8 w => ?_)
        exact ab_fin.q_ret (i := .return_) (k := 1) (v := none) (by decide +kernel) rfl F8 w
      · replace w := w.2 (Decidable.of_not_not q)
        refine ab_fin.s2 (i := .aload_n 0) (k := 1) (pc' := 65) (lv' := [(3, .int (σ.i 83 6)), (0, .ref 83), (1, .long l1)]) (st' := [.ref 83]) (by decide +kernel) rfl rfl ?_
        refine ab_fin.s2 (i := .iload_n 3) (k := 1) (pc' := 66) (lv' := [(3, .int (σ.i 83 6)), (0, .ref 83), (1, .long l1)]) (st' := [.int (σ.i 83 6), .ref 83]) (by decide +kernel) rfl rfl ?_
        refine ab_fin.s2 (i := .lload_n 1) (k := 1) (pc' := 67) (lv' := [(3, .int (σ.i 83 6)), (0, .ref 83), (1, .long l1)]) (st' := [.long l1, .int (σ.i 83 6), .ref 83]) (by decide +kernel) rfl rfl ?_
        refine ab_fin.q_yN (i := .invokevirtual 244) (k := 3) (y := 1049) (As := [.ref 83, .int (σ.i 83 6), .long l1]) (rest := []) (M' := (mX4_joinValue, [])) (lv2 := [(0, .ref 83), (1, .int (σ.i 83 6)), (2, .long l1)]) (pc' := 70) (X := K) (by decide +kernel) (ab_cv rfl rfl (conc_get (σ := τ4) (F5.s t0_83)) ⟨(Nat.le_of_ble_eq_true rfl), (Nat.le_of_ble_eq_true rfl)⟩ rfl) rfl (Nat.le_of_ble_eq_true rfl) rfl rfl (hY_no fun E => rfl) w (fun τ9 F10 w => ?_)
        refine ab_fin.s2 (i := .aload_n 0) (k := 1) (pc' := 71) (lv' := [(3, .int (σ.i 83 6)), (0, .ref 83), (1, .long l1)]) (st' := [.ref 83]) (by decide +kernel) rfl rfl ?_
        refine ab_fin.q_yN (i := .invokevirtual 235) (k := 3) (y := 1046) (As := [.ref 83]) (rest := []) (M' := (mX4_goOnInside, [])) (lv2 := [(0, .ref 83)]) (pc' := 74) (X := K) (by decide +kernel) (ab_cv rfl rfl (conc_get (σ := τ9) (F10.s t0_83)) ⟨(Nat.le_of_ble_eq_true rfl), (Nat.le_of_ble_eq_true rfl)⟩ rfl) rfl (Nat.le_of_ble_eq_true rfl) rfl rfl (hY_no fun E => rfl) w (fun τ11 F12 w => ?_)
        exact ab_fin.q_ret (i := .return_) (k := 1) (v := none) (by decide +kernel) rfl F12 w
    · replace w := w.2 (Decidable.of_not_not q)
      refine ab_fin.s2 (i := .aload_n 0) (k := 1) (pc' := 40) (lv' := [(3, .int (σ.i 83 6)), (0, .ref 83), (1, .long l1)]) (st' := [.ref 83]) (by decide +kernel) rfl rfl ?_
      refine ab_fin.s2 (i := .aload_n 0) (k := 1) (pc' := 41) (lv' := [(3, .int (σ.i 83 6)), (0, .ref 83), (1, .long l1)]) (st' := [.ref 83, .ref 83]) (by decide +kernel) rfl rfl ?_
      refine ab_fin.s2 (i := .iload_n 3) (k := 1) (pc' := 42) (lv' := [(3, .int (σ.i 83 6)), (0, .ref 83), (1, .long l1)]) (st' := [.int (σ.i 83 6), .ref 83, .ref 83]) (by decide +kernel) rfl rfl ?_
      refine ab_fin.s1i (i := .iconst 0) (k := 1) (pc' := 43) (n := 0) (by decide +kernel) rfl (by decide +kernel) rfl ?_
      refine ab_fin.q_yI (i := .invokevirtual 218) (k := 3) (y := 1041) (As := [.ref 83, .int (σ.i 83 6), .int 0]) (rest := [.ref 83]) (M' := (mX4_inFrame, [])) (lv2 := [(0, .ref 83), (1, .int (σ.i 83 6)), (2, .int 0)]) (pc' := 46) (X := K) (by decide +kernel) (ab_cv rfl rfl (conc_get (σ := τ1) (F2.s t0_83)) ⟨(Nat.le_of_ble_eq_true rfl), (Nat.le_of_ble_eq_true rfl)⟩ rfl) rfl (Nat.le_of_ble_eq_true rfl) rfl rfl (hY_no fun E => rfl) w (fun v15 τ13 F14 w => ?_)
      refine ab_fin.q_pF (ix := 53) (ci := 5) (k := 7) (h1 := conc (τ13.wi 83 7 v15)) (pc' := 49) (by decide +kernel) rfl (c_pI (v := v15) (F14.s t0_83) rfl) rfl rfl rfl ?_
      refine ab_fin.s2 (i := .aload_n 0) (k := 1) (pc' := 50) (lv' := [(3, .int (σ.i 83 6)), (0, .ref 83), (1, .long l1)]) (st' := [.ref 83]) (by decide +kernel) rfl rfl ?_
      refine ab_fin.s2 (i := .lload_n 1) (k := 1) (pc' := 51) (lv' := [(3, .int (σ.i 83 6)), (0, .ref 83), (1, .long l1)]) (st' := [.long l1, .ref 83]) (by decide +kernel) rfl rfl ?_
      refine ab_fin.q_yN (i := .invokevirtual 147) (k := 3) (y := 1030) (As := [.ref 83, .long l1]) (rest := []) (M' := (mX4_push, [])) (lv2 := [(0, .ref 83), (1, .long l1)]) (pc' := 54) (X := K) (by decide +kernel) (ab_cv rfl rfl (conc_get (σ := (τ13.wi 83 7 v15)) (F14.s t0_83)) ⟨(Nat.le_of_ble_eq_true rfl), (Nat.le_of_ble_eq_true rfl)⟩ rfl) rfl (Nat.le_of_ble_eq_true rfl) rfl rfl (hY_no fun E => rfl) w (fun τ16 F17 w => ?_)
      exact ab_fin.q_ret (i := .return_) (k := 1) (v := none) (by decide +kernel) rfl F17 w
  · replace w := w.2 (Decidable.of_not_not q)
    refine ab_fin.s2 (i := .aload_n 0) (k := 1) (pc' := 8) (lv' := [(0, .ref 83), (1, .long l1)]) (st' := [.ref 83]) (by decide +kernel) rfl rfl ?_
    refine ab_fin.s1i (i := .iconst 0) (k := 1) (pc' := 9) (n := 0) (by decide +kernel) rfl (by decide +kernel) rfl ?_
    refine ab_fin.s1i (i := .iconst 1) (k := 1) (pc' := 10) (n := 1) (by decide +kernel) rfl (by decide +kernel) rfl ?_
    refine ab_fin.s2 (i := .lload_n 1) (k := 1) (pc' := 11) (lv' := [(0, .ref 83), (1, .long l1)]) (st' := [.long l1, .int 1, .int 0, .ref 83]) (by decide +kernel) rfl rfl ?_
    refine ab_fin.q_yN (i := .invokevirtual 67) (k := 3) (y := 1029) (As := [.ref 83, .int 0, .int 1, .long l1]) (rest := []) (M' := (mX4_finish, [])) (lv2 := [(0, .ref 83), (1, .int 0), (2, .int 1), (3, .long l1)]) (pc' := 14) (X := K) (by decide +kernel) (ab_cv rfl rfl (conc_get (σ := σ) (F.s t0_83)) ⟨(Nat.le_of_ble_eq_true rfl), (Nat.le_of_ble_eq_true rfl)⟩ rfl) rfl (Nat.le_of_ble_eq_true rfl) rfl rfl (hY_no fun E => rfl) w (fun τ18 F19 w => ?_)
    exact ab_fin.q_ret (i := .return_) (k := 1) (v := none) (by decide +kernel) rfl F19 w
theorem T_X4_joinValue_0 {Z : zT} {d : Nat} {σ : Sg} {l1 : Int32} {l2 : Int64} {K : kS} (F : FX ΦC σ.sh σ.r) (w : C_X4_inFrame_0 Z d σ l1 7 (yI K fun v3 τ1 => C_X4_inFrame_0 Z d τ1 l1 1 (yI K fun v6 τ4 => ib v6 122 ∧ (ib (τ4.i 11 v6.toNatClampNeg) 24 ∧ (((τ4.i 32 ((τ4.i 11 v6.toNatClampNeg).toNatClampNeg)) = 1 → C_X4_valueOf_0 Z d τ4 1 (v3 + ((Int64.toInt32 l2))) (yL K fun v11 τ9 => C_X4_joinValue_172 Z (d + 1) τ9 (l1 * (32 : Int32)) 0 v11 K)) ∧ ((τ4.i 32 ((τ4.i 11 v6.toNatClampNeg).toNatClampNeg)) = 2 → (¬ ((Int64.toInt32 l2)) = 0 → C_X4_joinValue_121 Z (d + 1) τ4 (l1 * (32 : Int32)) ((Int64.toInt32 l2)) 1 1 K) ∧ (((Int64.toInt32 l2)) = 0 → C_X4_joinValue_121 Z (d + 1) τ4 (l1 * (32 : Int32)) ((Int64.toInt32 l2)) 1 0 K)) ∧ ((τ4.i 32 ((τ4.i 11 v6.toNatClampNeg).toNatClampNeg)) = 3 → (¬ ((Int64.toInt32 l2)) = 0 → C_X4_joinValue_152 Z (d + 1) τ4 (l1 * (32 : Int32)) ((Int64.toInt32 l2)) 1 1 K) ∧ (((Int64.toInt32 l2)) = 0 → C_X4_joinValue_152 Z (d + 1) τ4 (l1 * (32 : Int32)) ((Int64.toInt32 l2)) 1 0 K)) ∧ ((τ4.i 32 ((τ4.i 11 v6.toNatClampNeg).toNatClampNeg)) = 4 → C_X4_valueOf_0 Z d τ4 1 (if ((Int64.toInt32 l2)) < v3 then ((Int64.toInt32 l2)) else v3) (yL K fun v14 τ12 => C_X4_joinValue_172 Z (d + 1) τ12 (l1 * (32 : Int32)) 0 v14 K)) ∧ (¬ (τ4.i 32 ((τ4.i 11 v6.toNatClampNeg).toNatClampNeg)) = 1 → ¬ (τ4.i 32 ((τ4.i 11 v6.toNatClampNeg).toNatClampNeg)) = 2 → ¬ (τ4.i 32 ((τ4.i 11 v6.toNatClampNeg).toNatClampNeg)) = 3 → ¬ (τ4.i 32 ((τ4.i 11 v6.toNatClampNeg).toNatClampNeg)) = 4 → C_X4_joinValue_172 Z (d + 1) τ4 (l1 * (32 : Int32)) 0 l2 K)))))) : C_X4_joinValue_0 Z (d + 1) σ l1 l2 K := by
  unfold C_X4_joinValue_0
  refine ab_fin.s2 (i := .iload_n 1) (k := 1) (pc' := 1) (lv' := [(0, .ref 83), (1, .int l1), (2, .long l2)]) (st' := [.int l1]) (by decide +kernel) rfl rfl ?_
  refine ab_fin.s1i (i := .bipush 32) (k := 2) (pc' := 3) (n := 32) (by decide +kernel) rfl (by decide +kernel) rfl ?_
  refine ab_fin.s1 (i := .imul) (k := 1) (pc' := 4) (st' := [.int (l1 * (32 : Int32))]) (by decide +kernel) rfl rfl ?_
  refine ab_fin.s2 (i := .istore 4) (k := 2) (pc' := 6) (lv' := [(4, .int (l1 * (32 : Int32))), (0, .ref 83), (1, .int l1), (2, .long l2)]) (st' := []) (by decide +kernel) rfl rfl ?_
  refine ab_fin.s2 (i := .lload_n 2) (k := 1) (pc' := 7) (lv' := [(4, .int (l1 * (32 : Int32))), (0, .ref 83), (1, .int l1), (2, .long l2)]) (st' := [.long l2]) (by decide +kernel) rfl rfl ?_
  refine ab_fin.s1 (i := .l2i) (k := 1) (pc' := 8) (st' := [.int ((Int64.toInt32 l2))]) (by decide +kernel) rfl rfl ?_
  refine ab_fin.s2 (i := .istore 5) (k := 2) (pc' := 10) (lv' := [(5, .int ((Int64.toInt32 l2))), (4, .int (l1 * (32 : Int32))), (0, .ref 83), (1, .int l1), (2, .long l2)]) (st' := []) (by decide +kernel) rfl rfl ?_
  refine ab_fin.s2 (i := .aload_n 0) (k := 1) (pc' := 11) (lv' := [(5, .int ((Int64.toInt32 l2))), (4, .int (l1 * (32 : Int32))), (0, .ref 83), (1, .int l1), (2, .long l2)]) (st' := [.ref 83]) (by decide +kernel) rfl rfl ?_
  refine ab_fin.s2 (i := .iload_n 1) (k := 1) (pc' := 12) (lv' := [(5, .int ((Int64.toInt32 l2))), (4, .int (l1 * (32 : Int32))), (0, .ref 83), (1, .int l1), (2, .long l2)]) (st' := [.int l1, .ref 83]) (by decide +kernel) rfl rfl ?_
  refine ab_fin.s1i (i := .bipush 7) (k := 2) (pc' := 14) (n := 7) (by decide +kernel) rfl (by decide +kernel) rfl ?_
  refine ab_fin.q_yI (i := .invokevirtual 218) (k := 3) (y := 1041) (As := [.ref 83, .int l1, .int 7]) (rest := []) (M' := (mX4_inFrame, [])) (lv2 := [(0, .ref 83), (1, .int l1), (2, .int 7)]) (pc' := 17) (X := K) (by decide +kernel) (ab_cv rfl rfl (conc_get (σ := σ) (F.s t0_83)) ⟨(Nat.le_of_ble_eq_true rfl), (Nat.le_of_ble_eq_true rfl)⟩ rfl) rfl (Nat.le_of_ble_eq_true rfl) rfl rfl (hY_no fun E => rfl) w (fun v3 τ1 F2 w => ?_)
  refine ab_fin.s2 (i := .istore 6) (k := 2) (pc' := 19) (lv' := [(6, .int v3), (5, .int ((Int64.toInt32 l2))), (4, .int (l1 * (32 : Int32))), (0, .ref 83), (1, .int l1), (2, .long l2)]) (st' := []) (by decide +kernel) rfl rfl ?_
  refine ab_fin.s1i (i := .iconst 0) (k := 1) (pc' := 20) (n := 0) (by decide +kernel) rfl (by decide +kernel) rfl ?_
  refine ab_fin.s2 (i := .istore 7) (k := 2) (pc' := 22) (lv' := [(7, .int 0), (6, .int v3), (5, .int ((Int64.toInt32 l2))), (4, .int (l1 * (32 : Int32))), (0, .ref 83), (1, .int l1), (2, .long l2)]) (st' := []) (by decide +kernel) rfl rfl ?_
  refine ab_fin.s2 (i := .lload_n 2) (k := 1) (pc' := 23) (lv' := [(7, .int 0), (6, .int v3), (5, .int ((Int64.toInt32 l2))), (4, .int (l1 * (32 : Int32))), (0, .ref 83), (1, .int l1), (2, .long l2)]) (st' := [.long l2]) (by decide +kernel) rfl rfl ?_
  refine ab_fin.s2 (i := .lstore 8) (k := 2) (pc' := 25) (lv' := [(8, .long l2), (7, .int 0), (6, .int v3), (5, .int ((Int64.toInt32 l2))), (4, .int (l1 * (32 : Int32))), (0, .ref 83), (1, .int l1), (2, .long l2)]) (st' := []) (by decide +kernel) rfl rfl ?_
  refine ab_fin.s2 (i := .aload_n 0) (k := 1) (pc' := 26) (lv' := [(8, .long l2), (7, .int 0), (6, .int v3), (5, .int ((Int64.toInt32 l2))), (4, .int (l1 * (32 : Int32))), (0, .ref 83), (1, .int l1), (2, .long l2)]) (st' := [.ref 83]) (by decide +kernel) rfl rfl ?_
  refine ab_fin.q_rA (b := 1) (ix := 32) (ci := 5) (k := 0) (pc' := 29) (by decide +kernel) rfl (c_rA (F2.s t0_83) rfl (rC_5_0 F2 t0_83)) rfl ?_
  refine ab_fin.q_rA (b := 32) (ix := 227) (ci := 12) (k := 7) (pc' := 32) (by decide +kernel) rfl (c_rA (F2.s t0_1) rfl (rC_12_7 F2 t0_1)) rfl ?_
  refine ab_fin.s2 (i := .aload_n 0) (k := 1) (pc' := 33) (lv' := [(8, .long l2), (7, .int 0), (6, .int v3), (5, .int ((Int64.toInt32 l2))), (4, .int (l1 * (32 : Int32))), (0, .ref 83), (1, .int l1), (2, .long l2)]) (st' := [.ref 83, .ref 32]) (by decide +kernel) rfl rfl ?_
  refine ab_fin.q_rA (b := 1) (ix := 32) (ci := 5) (k := 0) (pc' := 36) (by decide +kernel) rfl (c_rA (F2.s t0_83) rfl (rC_5_0 F2 t0_83)) rfl ?_
  refine ab_fin.q_rA (b := 10) (ix := 209) (ci := 12) (k := 1) (pc' := 39) (by decide +kernel) rfl (c_rA (F2.s t0_1) rfl (rC_12_1 F2 t0_1)) rfl ?_
  refine ab_fin.q_rA (b := 11) (ix := 221) (ci := 6) (k := 1) (pc' := 42) (by decide +kernel) rfl (c_rA (F2.s t0_10) rfl (rC_6_1 F2 t0_10)) rfl ?_
  refine ab_fin.s2 (i := .aload_n 0) (k := 1) (pc' := 43) (lv' := [(8, .long l2), (7, .int 0), (6, .int v3), (5, .int ((Int64.toInt32 l2))), (4, .int (l1 * (32 : Int32))), (0, .ref 83), (1, .int l1), (2, .long l2)]) (st' := [.ref 83, .ref 11, .ref 32]) (by decide +kernel) rfl rfl ?_
  refine ab_fin.s2 (i := .iload_n 1) (k := 1) (pc' := 44) (lv' := [(8, .long l2), (7, .int 0), (6, .int v3), (5, .int ((Int64.toInt32 l2))), (4, .int (l1 * (32 : Int32))), (0, .ref 83), (1, .int l1), (2, .long l2)]) (st' := [.int l1, .ref 83, .ref 11, .ref 32]) (by decide +kernel) rfl rfl ?_
  refine ab_fin.s1i (i := .iconst 1) (k := 1) (pc' := 45) (n := 1) (by decide +kernel) rfl (by decide +kernel) rfl ?_
  refine ab_fin.q_yI (i := .invokevirtual 218) (k := 3) (y := 1041) (As := [.ref 83, .int l1, .int 1]) (rest := [.ref 11, .ref 32]) (M' := (mX4_inFrame, [])) (lv2 := [(0, .ref 83), (1, .int l1), (2, .int 1)]) (pc' := 48) (X := K) (by decide +kernel) (ab_cv rfl rfl (conc_get (σ := τ1) (F2.s t0_83)) ⟨(Nat.le_of_ble_eq_true rfl), (Nat.le_of_ble_eq_true rfl)⟩ rfl) rfl (Nat.le_of_ble_eq_true rfl) rfl rfl (hY_no fun E => rfl) w (fun v6 τ4 F5 w => ?_)
  obtain ⟨e7, w⟩ := w
  refine ab_fin.q_eI (x := (τ4.i 11 v6.toNatClampNeg)) (pc' := 49) (by decide +kernel) (c_eI' (F5.s t0_11) e7 rfl) rfl ?_
  obtain ⟨e8, w⟩ := w
  refine ab_fin.q_eI (x := (τ4.i 32 ((τ4.i 11 v6.toNatClampNeg).toNatClampNeg))) (pc' := 50) (by decide +kernel) (c_eI' (F5.s t0_32) e8 rfl) rfl ?_
  by_cases q0 : (τ4.i 32 ((τ4.i 11 v6.toNatClampNeg).toNatClampNeg)) = 1
  · refine ab_fin.s3 (i := .tableswitch 122 1 4 #[30, 60, 91, 44]) (k := 30) (t := 80) (st' := []) (by decide +kernel) (by rw [q0]; exact ab_swI (off := 30) (by decide +kernel) (by decide +kernel) (by decide +kernel)) ?_
    replace w := w.1 q0
    refine ab_fin.s1i (i := .iconst 1) (k := 1) (pc' := 81) (n := 1) (by decide +kernel) rfl (by decide +kernel) rfl ?_
    refine ab_fin.s2 (i := .iload 6) (k := 2) (pc' := 83) (lv' := [(8, .long l2), (7, .int 0), (6, .int v3), (5, .int ((Int64.toInt32 l2))), (4, .int (l1 * (32 : Int32))), (0, .ref 83), (1, .int l1), (2, .long l2)]) (st' := [.int v3, .int 1]) (by decide +kernel) rfl rfl ?_
    refine ab_fin.s2 (i := .iload 5) (k := 2) (pc' := 85) (lv' := [(8, .long l2), (7, .int 0), (6, .int v3), (5, .int ((Int64.toInt32 l2))), (4, .int (l1 * (32 : Int32))), (0, .ref 83), (1, .int l1), (2, .long l2)]) (st' := [.int ((Int64.toInt32 l2)), .int v3, .int 1]) (by decide +kernel) rfl rfl ?_
    refine ab_fin.s1 (i := .iadd) (k := 1) (pc' := 86) (st' := [.int (v3 + ((Int64.toInt32 l2))), .int 1]) (by decide +kernel) rfl rfl ?_
    refine ab_fin.q_yL (i := .invokestatic 118) (k := 3) (y := 1026) (As := [.int 1, .int (v3 + ((Int64.toInt32 l2)))]) (rest := []) (M' := (mX4_valueOf, [])) (lv2 := [(0, .int 1), (1, .int (v3 + ((Int64.toInt32 l2))))]) (pc' := 89) (X := K) (by decide +kernel) (ab_cs rfl rfl ⟨(Nat.le_of_ble_eq_true rfl), (Nat.le_of_ble_eq_true rfl)⟩ rfl) rfl (Nat.le_of_ble_eq_true rfl) rfl rfl (hY_no fun E => rfl) w (fun v11 τ9 F10 w => ?_)
    refine ab_fin.s2 (i := .lstore 8) (k := 2) (pc' := 91) (lv' := [(8, .long v11), (7, .int 0), (6, .int v3), (5, .int ((Int64.toInt32 l2))), (4, .int (l1 * (32 : Int32))), (0, .ref 83), (1, .int l1), (2, .long l2)]) (st' := []) (by decide +kernel) rfl rfl ?_
    refine ab_fin.s3 (i := .goto 81) (k := 3) (t := 172) (st' := []) (by decide +kernel) (ab_gto (by decide +kernel)) ?_
    exact ab_fin.lv ⟨(List.forall_mem_cons.mpr ⟨(List.Mem.tail _ (List.Mem.tail _ (List.Mem.tail _ (List.Mem.tail _ (List.Mem.tail _ (List.Mem.head _)))))), (List.forall_mem_cons.mpr ⟨(List.Mem.tail _ (List.Mem.tail _ (List.Mem.tail _ (List.Mem.tail _ (List.Mem.head _))))), (List.forall_mem_cons.mpr ⟨(List.Mem.tail _ (List.Mem.head _)), (List.forall_mem_cons.mpr ⟨(List.Mem.head _), (fun _ h => absurd h List.not_mem_nil)⟩)⟩)⟩)⟩), (show ([8, 7, 6, 5, 4, 0, 1, 2] : List Nat).Nodup from by decide)⟩ w
  by_cases q1 : (τ4.i 32 ((τ4.i 11 v6.toNatClampNeg).toNatClampNeg)) = 2
  · refine ab_fin.s3 (i := .tableswitch 122 1 4 #[30, 60, 91, 44]) (k := 30) (t := 110) (st' := []) (by decide +kernel) (by rw [q1]; exact ab_swI (off := 60) (by decide +kernel) (by decide +kernel) (by decide +kernel)) ?_
    replace w := w.2.1 q1
    refine ab_fin.s1i (i := .iconst 1) (k := 1) (pc' := 111) (n := 1) (by decide +kernel) rfl (by decide +kernel) rfl ?_
    refine ab_fin.s2 (i := .iload 5) (k := 2) (pc' := 113) (lv' := [(8, .long l2), (7, .int 0), (6, .int v3), (5, .int ((Int64.toInt32 l2))), (4, .int (l1 * (32 : Int32))), (0, .ref 83), (1, .int l1), (2, .long l2)]) (st' := [.int ((Int64.toInt32 l2)), .int 1]) (by decide +kernel) rfl rfl ?_
    refine ab_fin.br (c := ¬ ((Int64.toInt32 l2)) = 0) (i := .ifCond .ne 7) (off := 7) (t := 120) (pc' := 116) (r := [.int 1]) (by decide +kernel) rfl (by decide +kernel) rfl (fun q => ?_) (fun q => ?_)
    · replace w := w.1 q
      refine ab_fin.s1i (i := .iconst 1) (k := 1) (pc' := 121) (n := 1) (by decide +kernel) rfl (by decide +kernel) rfl ?_
      exact ab_fin.lv ⟨(List.forall_mem_cons.mpr ⟨(List.Mem.tail _ (List.Mem.tail _ (List.Mem.tail _ (List.Mem.tail _ (List.Mem.tail _ (List.Mem.head _)))))), (List.forall_mem_cons.mpr ⟨(List.Mem.tail _ (List.Mem.tail _ (List.Mem.tail _ (List.Mem.tail _ (List.Mem.head _))))), (List.forall_mem_cons.mpr ⟨(List.Mem.tail _ (List.Mem.tail _ (List.Mem.tail _ (List.Mem.head _)))), (fun _ h => absurd h List.not_mem_nil)⟩)⟩)⟩), (show ([8, 7, 6, 5, 4, 0, 1, 2] : List Nat).Nodup from by decide)⟩ w
    · replace w := w.2 (Decidable.of_not_not q)
      refine ab_fin.s1i (i := .iconst 0) (k := 1) (pc' := 117) (n := 0) (by decide +kernel) rfl (by decide +kernel) rfl ?_
      refine ab_fin.s3 (i := .goto 4) (k := 3) (t := 121) (st' := [.int 0, .int 1]) (by decide +kernel) (ab_gto (by decide +kernel)) ?_
      exact ab_fin.lv ⟨(List.forall_mem_cons.mpr ⟨(List.Mem.tail _ (List.Mem.tail _ (List.Mem.tail _ (List.Mem.tail _ (List.Mem.tail _ (List.Mem.head _)))))), (List.forall_mem_cons.mpr ⟨(List.Mem.tail _ (List.Mem.tail _ (List.Mem.tail _ (List.Mem.tail _ (List.Mem.head _))))), (List.forall_mem_cons.mpr ⟨(List.Mem.tail _ (List.Mem.tail _ (List.Mem.tail _ (List.Mem.head _)))), (fun _ h => absurd h List.not_mem_nil)⟩)⟩)⟩), (show ([8, 7, 6, 5, 4, 0, 1, 2] : List Nat).Nodup from by decide)⟩ w
  by_cases q2 : (τ4.i 32 ((τ4.i 11 v6.toNatClampNeg).toNatClampNeg)) = 3
  · refine ab_fin.s3 (i := .tableswitch 122 1 4 #[30, 60, 91, 44]) (k := 30) (t := 141) (st' := []) (by decide +kernel) (by rw [q2]; exact ab_swI (off := 91) (by decide +kernel) (by decide +kernel) (by decide +kernel)) ?_
    replace w := w.2.2.1 q2
    refine ab_fin.s1i (i := .iconst 1) (k := 1) (pc' := 142) (n := 1) (by decide +kernel) rfl (by decide +kernel) rfl ?_
    refine ab_fin.s2 (i := .iload 5) (k := 2) (pc' := 144) (lv' := [(8, .long l2), (7, .int 0), (6, .int v3), (5, .int ((Int64.toInt32 l2))), (4, .int (l1 * (32 : Int32))), (0, .ref 83), (1, .int l1), (2, .long l2)]) (st' := [.int ((Int64.toInt32 l2)), .int 1]) (by decide +kernel) rfl rfl ?_
    refine ab_fin.br (c := ¬ ((Int64.toInt32 l2)) = 0) (i := .ifCond .ne 7) (off := 7) (t := 151) (pc' := 147) (r := [.int 1]) (by decide +kernel) rfl (by decide +kernel) rfl (fun q => ?_) (fun q => ?_)
    · replace w := w.1 q
      refine ab_fin.s1i (i := .iconst 1) (k := 1) (pc' := 152) (n := 1) (by decide +kernel) rfl (by decide +kernel) rfl ?_
      exact ab_fin.lv ⟨(List.forall_mem_cons.mpr ⟨(List.Mem.tail _ (List.Mem.tail _ (List.Mem.tail _ (List.Mem.tail _ (List.Mem.tail _ (List.Mem.head _)))))), (List.forall_mem_cons.mpr ⟨(List.Mem.tail _ (List.Mem.tail _ (List.Mem.tail _ (List.Mem.tail _ (List.Mem.head _))))), (List.forall_mem_cons.mpr ⟨(List.Mem.tail _ (List.Mem.tail _ (List.Mem.tail _ (List.Mem.head _)))), (fun _ h => absurd h List.not_mem_nil)⟩)⟩)⟩), (show ([8, 7, 6, 5, 4, 0, 1, 2] : List Nat).Nodup from by decide)⟩ w
    · replace w := w.2 (Decidable.of_not_not q)
      refine ab_fin.s1i (i := .iconst 0) (k := 1) (pc' := 148) (n := 0) (by decide +kernel) rfl (by decide +kernel) rfl ?_
      refine ab_fin.s3 (i := .goto 4) (k := 3) (t := 152) (st' := [.int 0, .int 1]) (by decide +kernel) (ab_gto (by decide +kernel)) ?_
      exact ab_fin.lv ⟨(List.forall_mem_cons.mpr ⟨(List.Mem.tail _ (List.Mem.tail _ (List.Mem.tail _ (List.Mem.tail _ (List.Mem.tail _ (List.Mem.head _)))))), (List.forall_mem_cons.mpr ⟨(List.Mem.tail _ (List.Mem.tail _ (List.Mem.tail _ (List.Mem.tail _ (List.Mem.head _))))), (List.forall_mem_cons.mpr ⟨(List.Mem.tail _ (List.Mem.tail _ (List.Mem.tail _ (List.Mem.head _)))), (fun _ h => absurd h List.not_mem_nil)⟩)⟩)⟩), (show ([8, 7, 6, 5, 4, 0, 1, 2] : List Nat).Nodup from by decide)⟩ w
  by_cases q3 : (τ4.i 32 ((τ4.i 11 v6.toNatClampNeg).toNatClampNeg)) = 4
  · refine ab_fin.s3 (i := .tableswitch 122 1 4 #[30, 60, 91, 44]) (k := 30) (t := 94) (st' := []) (by decide +kernel) (by rw [q3]; exact ab_swI (off := 44) (by decide +kernel) (by decide +kernel) (by decide +kernel)) ?_
    replace w := w.2.2.2.1 q3
    refine ab_fin.s1i (i := .iconst 1) (k := 1) (pc' := 95) (n := 1) (by decide +kernel) rfl (by decide +kernel) rfl ?_
    refine ab_fin.s2 (i := .iload 6) (k := 2) (pc' := 97) (lv' := [(8, .long l2), (7, .int 0), (6, .int v3), (5, .int ((Int64.toInt32 l2))), (4, .int (l1 * (32 : Int32))), (0, .ref 83), (1, .int l1), (2, .long l2)]) (st' := [.int v3, .int 1]) (by decide +kernel) rfl rfl ?_
    refine ab_fin.s2 (i := .iload 5) (k := 2) (pc' := 99) (lv' := [(8, .long l2), (7, .int 0), (6, .int v3), (5, .int ((Int64.toInt32 l2))), (4, .int (l1 * (32 : Int32))), (0, .ref 83), (1, .int l1), (2, .long l2)]) (st' := [.int ((Int64.toInt32 l2)), .int v3, .int 1]) (by decide +kernel) rfl rfl ?_
    refine ab_fin.cpy (i := .invokestatic 248) (k := 3) (pc' := 102) (h1 := conc τ4) (st' := [.int (if ((Int64.toInt32 l2)) < v3 then ((Int64.toInt32 l2)) else v3), .int 1]) (by decide +kernel) rfl rfl ?_
    refine ab_fin.q_yL (i := .invokestatic 118) (k := 3) (y := 1026) (As := [.int 1, .int (if ((Int64.toInt32 l2)) < v3 then ((Int64.toInt32 l2)) else v3)]) (rest := []) (M' := (mX4_valueOf, [])) (lv2 := [(0, .int 1), (1, .int (if ((Int64.toInt32 l2)) < v3 then ((Int64.toInt32 l2)) else v3))]) (pc' := 105) (X := K) (by decide +kernel) (ab_cs rfl rfl ⟨(Nat.le_of_ble_eq_true rfl), (Nat.le_of_ble_eq_true rfl)⟩ rfl) rfl (Nat.le_of_ble_eq_true rfl) rfl rfl (hY_no fun E => rfl) w (fun v14 τ12 F13 w => ?_)
    refine ab_fin.s2 (i := .lstore 8) (k := 2) (pc' := 107) (lv' := [(8, .long v14), (7, .int 0), (6, .int v3), (5, .int ((Int64.toInt32 l2))), (4, .int (l1 * (32 : Int32))), (0, .ref 83), (1, .int l1), (2, .long l2)]) (st' := []) (by decide +kernel) rfl rfl ?_
    refine ab_fin.s3 (i := .goto 65) (k := 3) (t := 172) (st' := []) (by decide +kernel) (ab_gto (by decide +kernel)) ?_
    exact ab_fin.lv ⟨(List.forall_mem_cons.mpr ⟨(List.Mem.tail _ (List.Mem.tail _ (List.Mem.tail _ (List.Mem.tail _ (List.Mem.tail _ (List.Mem.head _)))))), (List.forall_mem_cons.mpr ⟨(List.Mem.tail _ (List.Mem.tail _ (List.Mem.tail _ (List.Mem.tail _ (List.Mem.head _))))), (List.forall_mem_cons.mpr ⟨(List.Mem.tail _ (List.Mem.head _)), (List.forall_mem_cons.mpr ⟨(List.Mem.head _), (fun _ h => absurd h List.not_mem_nil)⟩)⟩)⟩)⟩), (show ([8, 7, 6, 5, 4, 0, 1, 2] : List Nat).Nodup from by decide)⟩ w
  have hsw : ab_s3 (.tableswitch 122 1 4 #[30, 60, 91, 44]) 30 50 (.int (τ4.i 32 ((τ4.i 11 v6.toNatClampNeg).toNatClampNeg)) :: []) = some (172, []) := by
    clear w
    have qd : Int32.toInt (τ4.i 32 ((τ4.i 11 v6.toNatClampNeg).toNatClampNeg)) < 1 ∨ 4 < Int32.toInt (τ4.i 32 ((τ4.i 11 v6.toNatClampNeg).toNatClampNeg)) := by
      simp only [← Int32.toInt_inj, show (1 : Int32).toInt = 1 from rfl, show (2 : Int32).toInt = 2 from rfl, show (3 : Int32).toInt = 3 from rfl, show (4 : Int32).toInt = 4 from rfl] at q0 q1 q2 q3 
      omega
    exact ab_swD qd (by decide +kernel)
  refine ab_fin.s3 (i := .tableswitch 122 1 4 #[30, 60, 91, 44]) (k := 30) (t := 172) (st' := []) (by decide +kernel) hsw ?_
  replace w := w.2.2.2.2 q0 q1 q2 q3
  exact ab_fin.lv ⟨(List.forall_mem_cons.mpr ⟨(List.Mem.tail _ (List.Mem.tail _ (List.Mem.tail _ (List.Mem.tail _ (List.Mem.tail _ (List.Mem.head _)))))), (List.forall_mem_cons.mpr ⟨(List.Mem.tail _ (List.Mem.tail _ (List.Mem.tail _ (List.Mem.tail _ (List.Mem.head _))))), (List.forall_mem_cons.mpr ⟨(List.Mem.tail _ (List.Mem.head _)), (List.forall_mem_cons.mpr ⟨(List.Mem.head _), (fun _ h => absurd h List.not_mem_nil)⟩)⟩)⟩)⟩), (show ([8, 7, 6, 5, 4, 0, 1, 2] : List Nat).Nodup from by decide)⟩ w
theorem T_X4_joinValue_121 {Z : zT} {d : Nat} {σ : Sg} {l4 : Int32} {l5 : Int32} {s0 : Int32} {s1 : Int32} {K : kS} (F : FX ΦC σ.sh σ.r) (w : C_X4_valueOf_0 Z d σ s0 s1 (yL K fun v3 τ1 => (¬ l5 = 0 → C_X4_joinValue_136 Z (d + 1) τ1 l4 v3 0 K) ∧ (l5 = 0 → C_X4_joinValue_136 Z (d + 1) τ1 l4 v3 1 K))) : C_X4_joinValue_121 Z (d + 1) σ l4 l5 s0 s1 K := by
  unfold C_X4_joinValue_121
  refine ab_fin.q_yL (i := .invokestatic 118) (k := 3) (y := 1026) (As := [.int s0, .int s1]) (rest := []) (M' := (mX4_valueOf, [])) (lv2 := [(0, .int s0), (1, .int s1)]) (pc' := 124) (X := K) (by decide +kernel) (ab_cs rfl rfl ⟨(Nat.le_of_ble_eq_true rfl), (Nat.le_of_ble_eq_true rfl)⟩ rfl) rfl (Nat.le_of_ble_eq_true rfl) rfl rfl (hY_no fun E => rfl) w (fun v3 τ1 F2 w => ?_)
  refine ab_fin.s2 (i := .lstore 8) (k := 2) (pc' := 126) (lv' := [(8, .long v3), (0, .ref 83), (4, .int l4), (5, .int l5)]) (st' := []) (by decide +kernel) rfl rfl ?_
  refine ab_fin.s2 (i := .iload 5) (k := 2) (pc' := 128) (lv' := [(8, .long v3), (0, .ref 83), (4, .int l4), (5, .int l5)]) (st' := [.int l5]) (by decide +kernel) rfl rfl ?_
  refine ab_fin.br (c := ¬ l5 = 0) (i := .ifCond .ne 7) (off := 7) (t := 135) (pc' := 131) (r := []) (by decide +kernel) rfl (by decide +kernel) rfl (fun q => ?_) (fun q => ?_)
  · replace w := w.1 q
    refine ab_fin.s1i (i := .iconst 0) (k := 1) (pc' := 136) (n := 0) (by decide +kernel) rfl (by decide +kernel) rfl ?_
    exact ab_fin.lv ⟨(List.forall_mem_cons.mpr ⟨(List.Mem.tail _ (List.Mem.head _)), (List.forall_mem_cons.mpr ⟨(List.Mem.tail _ (List.Mem.tail _ (List.Mem.head _))), (List.forall_mem_cons.mpr ⟨(List.Mem.head _), (fun _ h => absurd h List.not_mem_nil)⟩)⟩)⟩), (show ([8, 0, 4, 5] : List Nat).Nodup from by decide)⟩ w
  · replace w := w.2 (Decidable.of_not_not q)
    refine ab_fin.s1i (i := .iconst 1) (k := 1) (pc' := 132) (n := 1) (by decide +kernel) rfl (by decide +kernel) rfl ?_
    refine ab_fin.s3 (i := .goto 4) (k := 3) (t := 136) (st' := [.int 1]) (by decide +kernel) (ab_gto (by decide +kernel)) ?_
    exact ab_fin.lv ⟨(List.forall_mem_cons.mpr ⟨(List.Mem.tail _ (List.Mem.head _)), (List.forall_mem_cons.mpr ⟨(List.Mem.tail _ (List.Mem.tail _ (List.Mem.head _))), (List.forall_mem_cons.mpr ⟨(List.Mem.head _), (fun _ h => absurd h List.not_mem_nil)⟩)⟩)⟩), (show ([8, 0, 4, 5] : List Nat).Nodup from by decide)⟩ w
theorem T_X4_joinValue_136 {Z : zT} {d : Nat} {σ : Sg} {l4 : Int32} {l8 : Int64} {s0 : Int32} {K : kS} (F : FX ΦC σ.sh σ.r) (w : C_X4_joinValue_172 Z (d + 1) σ l4 s0 l8 K) : C_X4_joinValue_136 Z (d + 1) σ l4 l8 s0 K := by
  unfold C_X4_joinValue_136
  refine ab_fin.s2 (i := .istore 7) (k := 2) (pc' := 138) (lv' := [(7, .int s0), (0, .ref 83), (4, .int l4), (8, .long l8)]) (st' := []) (by decide +kernel) rfl rfl ?_
  refine ab_fin.s3 (i := .goto 34) (k := 3) (t := 172) (st' := []) (by decide +kernel) (ab_gto (by decide +kernel)) ?_
  exact ab_fin.lv ⟨(List.forall_mem_cons.mpr ⟨(List.Mem.tail _ (List.Mem.head _)), (List.forall_mem_cons.mpr ⟨(List.Mem.tail _ (List.Mem.tail _ (List.Mem.head _))), (List.forall_mem_cons.mpr ⟨(List.Mem.head _), (List.forall_mem_cons.mpr ⟨(List.Mem.tail _ (List.Mem.tail _ (List.Mem.tail _ (List.Mem.head _)))), (fun _ h => absurd h List.not_mem_nil)⟩)⟩)⟩)⟩), (show ([7, 0, 4, 8] : List Nat).Nodup from by decide)⟩ w
theorem T_X4_joinValue_152 {Z : zT} {d : Nat} {σ : Sg} {l4 : Int32} {l5 : Int32} {s0 : Int32} {s1 : Int32} {K : kS} (F : FX ΦC σ.sh σ.r) (w : C_X4_valueOf_0 Z d σ s0 s1 (yL K fun v3 τ1 => (l5 = 0 → C_X4_joinValue_167 Z (d + 1) τ1 l4 v3 0 K) ∧ (¬ l5 = 0 → C_X4_joinValue_167 Z (d + 1) τ1 l4 v3 1 K))) : C_X4_joinValue_152 Z (d + 1) σ l4 l5 s0 s1 K := by
  unfold C_X4_joinValue_152
  refine ab_fin.q_yL (i := .invokestatic 118) (k := 3) (y := 1026) (As := [.int s0, .int s1]) (rest := []) (M' := (mX4_valueOf, [])) (lv2 := [(0, .int s0), (1, .int s1)]) (pc' := 155) (X := K) (by decide +kernel) (ab_cs rfl rfl ⟨(Nat.le_of_ble_eq_true rfl), (Nat.le_of_ble_eq_true rfl)⟩ rfl) rfl (Nat.le_of_ble_eq_true rfl) rfl rfl (hY_no fun E => rfl) w (fun v3 τ1 F2 w => ?_)
  refine ab_fin.s2 (i := .lstore 8) (k := 2) (pc' := 157) (lv' := [(8, .long v3), (0, .ref 83), (4, .int l4), (5, .int l5)]) (st' := []) (by decide +kernel) rfl rfl ?_
  refine ab_fin.s2 (i := .iload 5) (k := 2) (pc' := 159) (lv' := [(8, .long v3), (0, .ref 83), (4, .int l4), (5, .int l5)]) (st' := [.int l5]) (by decide +kernel) rfl rfl ?_
  refine ab_fin.br (c := l5 = 0) (i := .ifCond .eq 7) (off := 7) (t := 166) (pc' := 162) (r := []) (by decide +kernel) rfl (by decide +kernel) rfl (fun q => ?_) (fun q => ?_)
  · replace w := w.1 q
    refine ab_fin.s1i (i := .iconst 0) (k := 1) (pc' := 167) (n := 0) (by decide +kernel) rfl (by decide +kernel) rfl ?_
    exact ab_fin.lv ⟨(List.forall_mem_cons.mpr ⟨(List.Mem.tail _ (List.Mem.head _)), (List.forall_mem_cons.mpr ⟨(List.Mem.tail _ (List.Mem.tail _ (List.Mem.head _))), (List.forall_mem_cons.mpr ⟨(List.Mem.head _), (fun _ h => absurd h List.not_mem_nil)⟩)⟩)⟩), (show ([8, 0, 4, 5] : List Nat).Nodup from by decide)⟩ w
  · replace w := w.2 q
    refine ab_fin.s1i (i := .iconst 1) (k := 1) (pc' := 163) (n := 1) (by decide +kernel) rfl (by decide +kernel) rfl ?_
    refine ab_fin.s3 (i := .goto 4) (k := 3) (t := 167) (st' := [.int 1]) (by decide +kernel) (ab_gto (by decide +kernel)) ?_
    exact ab_fin.lv ⟨(List.forall_mem_cons.mpr ⟨(List.Mem.tail _ (List.Mem.head _)), (List.forall_mem_cons.mpr ⟨(List.Mem.tail _ (List.Mem.tail _ (List.Mem.head _))), (List.forall_mem_cons.mpr ⟨(List.Mem.head _), (fun _ h => absurd h List.not_mem_nil)⟩)⟩)⟩), (show ([8, 0, 4, 5] : List Nat).Nodup from by decide)⟩ w
theorem T_X4_joinValue_167 {Z : zT} {d : Nat} {σ : Sg} {l4 : Int32} {l8 : Int64} {s0 : Int32} {K : kS} (F : FX ΦC σ.sh σ.r) (w : C_X4_joinValue_172 Z (d + 1) σ l4 s0 l8 K) : C_X4_joinValue_167 Z (d + 1) σ l4 l8 s0 K := by
  unfold C_X4_joinValue_167
  refine ab_fin.s2 (i := .istore 7) (k := 2) (pc' := 169) (lv' := [(7, .int s0), (0, .ref 83), (4, .int l4), (8, .long l8)]) (st' := []) (by decide +kernel) rfl rfl ?_
  refine ab_fin.s3 (i := .goto 3) (k := 3) (t := 172) (st' := []) (by decide +kernel) (ab_gto (by decide +kernel)) ?_
  exact ab_fin.lv ⟨(List.forall_mem_cons.mpr ⟨(List.Mem.tail _ (List.Mem.head _)), (List.forall_mem_cons.mpr ⟨(List.Mem.tail _ (List.Mem.tail _ (List.Mem.head _))), (List.forall_mem_cons.mpr ⟨(List.Mem.head _), (List.forall_mem_cons.mpr ⟨(List.Mem.tail _ (List.Mem.tail _ (List.Mem.tail _ (List.Mem.head _)))), (fun _ h => absurd h List.not_mem_nil)⟩)⟩)⟩)⟩), (show ([7, 0, 4, 8] : List Nat).Nodup from by decide)⟩ w
theorem T_X4_joinValue_172 {Z : zT} {d : Nat} {σ : Sg} {l4 : Int32} {l7 : Int32} {l8 : Int64} {K : kS} (F : FX ΦC σ.sh σ.r) (w : ib (l4 + (7 : Int32)) 832 ∧ ((l7 = 0 → K (.inl none) (σ.wl 94 ((l4 + (7 : Int32)).toNatClampNeg) l8)) ∧ (¬ l7 = 0 → ib (l4 + (6 : Int32)) 832 ∧ (K (.inl none) ((σ.wl 94 ((l4 + (7 : Int32)).toNatClampNeg) l8).wl 94 ((l4 + (6 : Int32)).toNatClampNeg) (120 : Int64)))))) : C_X4_joinValue_172 Z (d + 1) σ l4 l7 l8 K := by
  unfold C_X4_joinValue_172
  refine ab_fin.s2 (i := .aload_n 0) (k := 1) (pc' := 173) (lv' := [(0, .ref 83), (4, .int l4), (7, .int l7), (8, .long l8)]) (st' := [.ref 83]) (by decide +kernel) rfl rfl ?_
  refine ab_fin.q_rA (b := 94) (ix := 15) (ci := 5) (k := 3) (pc' := 176) (by decide +kernel) rfl (c_rA (F.s t0_83) rfl (rC_5_3 F t0_83)) rfl ?_
  refine ab_fin.s2 (i := .iload 4) (k := 2) (pc' := 178) (lv' := [(0, .ref 83), (4, .int l4), (7, .int l7), (8, .long l8)]) (st' := [.int l4, .ref 94]) (by decide +kernel) rfl rfl ?_
  refine ab_fin.s1i (i := .bipush 7) (k := 2) (pc' := 180) (n := 7) (by decide +kernel) rfl (by decide +kernel) rfl ?_
  refine ab_fin.s1 (i := .iadd) (k := 1) (pc' := 181) (st' := [.int (l4 + (7 : Int32)), .ref 94]) (by decide +kernel) rfl rfl ?_
  refine ab_fin.s2 (i := .lload 8) (k := 2) (pc' := 183) (lv' := [(0, .ref 83), (4, .int l4), (7, .int l7), (8, .long l8)]) (st' := [.long l8, .int (l4 + (7 : Int32)), .ref 94]) (by decide +kernel) rfl rfl ?_
  obtain ⟨e1, w⟩ := w
  refine ab_fin.q_sL (h1 := conc (σ.wl 94 ((l4 + (7 : Int32)).toNatClampNeg) l8)) (pc' := 184) (by decide +kernel) (c_sL' (F.s t0_94) e1 rfl) rfl ?_
  refine ab_fin.s2 (i := .iload 7) (k := 2) (pc' := 186) (lv' := [(0, .ref 83), (4, .int l4), (7, .int l7), (8, .long l8)]) (st' := [.int l7]) (by decide +kernel) rfl rfl ?_
  refine ab_fin.br (c := l7 = 0) (i := .ifCond .eq 16) (off := 16) (t := 202) (pc' := 189) (r := []) (by decide +kernel) rfl (by decide +kernel) rfl (fun q => ?_) (fun q => ?_)
  · replace w := w.1 q
    exact ab_fin.q_ret (i := .return_) (k := 1) (v := none) (by decide +kernel) rfl F w
  · replace w := w.2 q
    refine ab_fin.s2 (i := .aload_n 0) (k := 1) (pc' := 190) (lv' := [(0, .ref 83), (4, .int l4), (7, .int l7), (8, .long l8)]) (st' := [.ref 83]) (by decide +kernel) rfl rfl ?_
    refine ab_fin.q_rA (b := 94) (ix := 15) (ci := 5) (k := 3) (pc' := 193) (by decide +kernel) rfl (c_rA (F.s t0_83) rfl (rC_5_3 F t0_83)) rfl ?_
    refine ab_fin.s2 (i := .iload 4) (k := 2) (pc' := 195) (lv' := [(0, .ref 83), (4, .int l4), (7, .int l7), (8, .long l8)]) (st' := [.int l4, .ref 94]) (by decide +kernel) rfl rfl ?_
    refine ab_fin.s1i (i := .bipush 6) (k := 2) (pc' := 197) (n := 6) (by decide +kernel) rfl (by decide +kernel) rfl ?_
    refine ab_fin.s1 (i := .iadd) (k := 1) (pc' := 198) (st' := [.int (l4 + (6 : Int32)), .ref 94]) (by decide +kernel) rfl rfl ?_
    refine ab_fin.s7 (i := .ldc2_w 253) (k := 3) (pc' := 201) (st' := [.long 120, .int (l4 + (6 : Int32)), .ref 94]) (by decide +kernel) rfl rfl ?_
    obtain ⟨e2, w⟩ := w
    refine ab_fin.q_sL (h1 := conc ((σ.wl 94 ((l4 + (7 : Int32)).toNatClampNeg) l8).wl 94 ((l4 + (6 : Int32)).toNatClampNeg) (120 : Int64))) (pc' := 202) (by decide +kernel) (c_sL' (F.s t0_94) e2 rfl) rfl ?_
    exact ab_fin.q_ret (i := .return_) (k := 1) (v := none) (by decide +kernel) rfl F w
theorem T_X5_isThere_0 {Z : zT} {d : Nat} {σ : Sg} {l1 : Int32} {K : kS} (F : FX ΦC σ.sh σ.r) (w : (l1 < 1 → K (.inl (some (.int 0))) σ) ∧ (¬ l1 < 1 → ((σ.i 10 0) < l1 → K (.inl (some (.int 0))) σ) ∧ (¬ (σ.i 10 0) < l1 → ib l1 122 ∧ (((σ.i 11 l1.toNatClampNeg) < 0 → K (.inl (some (.int 0))) σ) ∧ (¬ (σ.i 11 l1.toNatClampNeg) < 0 → K (.inl (some (.int 1))) σ))))) : C_X5_isThere_0 Z (d + 1) σ l1 K := by
  unfold C_X5_isThere_0
  refine ab_fin.s2 (i := .iload_n 1) (k := 1) (pc' := 1) (lv' := [(0, .ref 10), (1, .int l1)]) (st' := [.int l1]) (by decide +kernel) rfl rfl ?_
  refine ab_fin.s1i (i := .iconst 1) (k := 1) (pc' := 2) (n := 1) (by decide +kernel) rfl (by decide +kernel) rfl ?_
  refine ab_fin.br (c := l1 < 1) (i := .if_icmp .lt 24) (off := 24) (t := 26) (pc' := 5) (r := []) (by decide +kernel) rfl (by decide +kernel) rfl (fun q => ?_) (fun q => ?_)
  · replace w := w.1 q
    refine ab_fin.s1i (i := .iconst 0) (k := 1) (pc' := 27) (n := 0) (by decide +kernel) rfl (by decide +kernel) rfl ?_
    exact ab_fin.q_ret (i := .ireturn) (k := 1) (v := some (.int 0)) (by decide +kernel) rfl F w
  · replace w := w.2 q
    refine ab_fin.s2 (i := .iload_n 1) (k := 1) (pc' := 6) (lv' := [(0, .ref 10), (1, .int l1)]) (st' := [.int l1]) (by decide +kernel) rfl rfl ?_
    refine ab_fin.s2 (i := .aload_n 0) (k := 1) (pc' := 7) (lv' := [(0, .ref 10), (1, .int l1)]) (st' := [.ref 10, .int l1]) (by decide +kernel) rfl rfl ?_
    refine ab_fin.q_rI (x := (σ.i 10 0)) (ix := 53) (ci := 6) (k := 0) (pc' := 10) (by decide +kernel) rfl (c_rI (F.s t0_10) rfl) rfl ?_
    refine ab_fin.br (c := (σ.i 10 0) < l1) (i := .if_icmp .gt 16) (off := 16) (t := 26) (pc' := 13) (r := []) (by decide +kernel) rfl (by decide +kernel) rfl (fun q => ?_) (fun q => ?_)
    · replace w := w.1 q
      refine ab_fin.s1i (i := .iconst 0) (k := 1) (pc' := 27) (n := 0) (by decide +kernel) rfl (by decide +kernel) rfl ?_
      exact ab_fin.q_ret (i := .ireturn) (k := 1) (v := some (.int 0)) (by decide +kernel) rfl F w
    · replace w := w.2 q
      refine ab_fin.s2 (i := .aload_n 0) (k := 1) (pc' := 14) (lv' := [(0, .ref 10), (1, .int l1)]) (st' := [.ref 10]) (by decide +kernel) rfl rfl ?_
      refine ab_fin.q_rA (b := 11) (ix := 11) (ci := 6) (k := 1) (pc' := 17) (by decide +kernel) rfl (c_rA (F.s t0_10) rfl (rC_6_1 F t0_10)) rfl ?_
      refine ab_fin.s2 (i := .iload_n 1) (k := 1) (pc' := 18) (lv' := [(0, .ref 10), (1, .int l1)]) (st' := [.int l1, .ref 11]) (by decide +kernel) rfl rfl ?_
      obtain ⟨e1, w⟩ := w
      refine ab_fin.q_eI (x := (σ.i 11 l1.toNatClampNeg)) (pc' := 19) (by decide +kernel) (c_eI' (F.s t0_11) e1 rfl) rfl ?_
      refine ab_fin.br (c := (σ.i 11 l1.toNatClampNeg) < 0) (i := .ifCond .lt 7) (off := 7) (t := 26) (pc' := 22) (r := []) (by decide +kernel) rfl (by decide +kernel) rfl (fun q => ?_) (fun q => ?_)
      · replace w := w.1 q
        refine ab_fin.s1i (i := .iconst 0) (k := 1) (pc' := 27) (n := 0) (by decide +kernel) rfl (by decide +kernel) rfl ?_
        exact ab_fin.q_ret (i := .ireturn) (k := 1) (v := some (.int 0)) (by decide +kernel) rfl F w
      · replace w := w.2 q
        refine ab_fin.s1i (i := .iconst 1) (k := 1) (pc' := 23) (n := 1) (by decide +kernel) rfl (by decide +kernel) rfl ?_
        refine ab_fin.s3 (i := .goto 4) (k := 3) (t := 27) (st' := [.int 1]) (by decide +kernel) (ab_gto (by decide +kernel)) ?_
        exact ab_fin.q_ret (i := .ireturn) (k := 1) (v := some (.int 1)) (by decide +kernel) rfl F w
theorem T_X5_open_0 {Z : zT} {d : Nat} {σ : Sg} {l1 : Int32} {l2 : Int32} {K : kS} (F : FX ΦC σ.sh σ.r) (w : ib l1 122 ∧ (ib l1 122 ∧ (ib l1 122 ∧ (ib l1 122 ∧ (ib l1 122 ∧ (C_X5_open_39 Z (d + 1) (((((σ.wi 11 l1.toNatClampNeg l2).wi 12 l1.toNatClampNeg (0 : Int32)).wi 13 l1.toNatClampNeg (-1 : Int32)).wi 18 l1.toNatClampNeg (0 : Int32)).wl 23 l1.toNatClampNeg (-1 : Int64)) l1 0 K)))))) : C_X5_open_0 Z (d + 1) σ l1 l2 K := by
  unfold C_X5_open_0
  refine ab_fin.s2 (i := .aload_n 0) (k := 1) (pc' := 1) (lv' := [(0, .ref 10), (1, .int l1), (2, .int l2)]) (st' := [.ref 10]) (by decide +kernel) rfl rfl ?_
  refine ab_fin.q_rA (b := 11) (ix := 11) (ci := 6) (k := 1) (pc' := 4) (by decide +kernel) rfl (c_rA (F.s t0_10) rfl (rC_6_1 F t0_10)) rfl ?_
  refine ab_fin.s2 (i := .iload_n 1) (k := 1) (pc' := 5) (lv' := [(0, .ref 10), (1, .int l1), (2, .int l2)]) (st' := [.int l1, .ref 11]) (by decide +kernel) rfl rfl ?_
  refine ab_fin.s2 (i := .iload_n 2) (k := 1) (pc' := 6) (lv' := [(0, .ref 10), (1, .int l1), (2, .int l2)]) (st' := [.int l2, .int l1, .ref 11]) (by decide +kernel) rfl rfl ?_
  obtain ⟨e1, w⟩ := w
  refine ab_fin.q_sI (h1 := conc (σ.wi 11 l1.toNatClampNeg l2)) (pc' := 7) (by decide +kernel) (c_sI' (F.s t0_11) e1 rfl) rfl ?_
  refine ab_fin.s2 (i := .aload_n 0) (k := 1) (pc' := 8) (lv' := [(0, .ref 10), (1, .int l1), (2, .int l2)]) (st' := [.ref 10]) (by decide +kernel) rfl rfl ?_
  refine ab_fin.q_rA (b := 12) (ix := 15) (ci := 6) (k := 2) (pc' := 11) (by decide +kernel) rfl (c_rA (F.s t0_10) rfl (rC_6_2 F t0_10)) rfl ?_
  refine ab_fin.s2 (i := .iload_n 1) (k := 1) (pc' := 12) (lv' := [(0, .ref 10), (1, .int l1), (2, .int l2)]) (st' := [.int l1, .ref 12]) (by decide +kernel) rfl rfl ?_
  refine ab_fin.s1i (i := .iconst 0) (k := 1) (pc' := 13) (n := 0) (by decide +kernel) rfl (by decide +kernel) rfl ?_
  obtain ⟨e2, w⟩ := w
  refine ab_fin.q_sI (h1 := conc ((σ.wi 11 l1.toNatClampNeg l2).wi 12 l1.toNatClampNeg (0 : Int32))) (pc' := 14) (by decide +kernel) (c_sI' (F.s t0_12) e2 rfl) rfl ?_
  refine ab_fin.s2 (i := .aload_n 0) (k := 1) (pc' := 15) (lv' := [(0, .ref 10), (1, .int l1), (2, .int l2)]) (st' := [.ref 10]) (by decide +kernel) rfl rfl ?_
  refine ab_fin.q_rA (b := 13) (ix := 18) (ci := 6) (k := 3) (pc' := 18) (by decide +kernel) rfl (c_rA (F.s t0_10) rfl (rC_6_3 F t0_10)) rfl ?_
  refine ab_fin.s2 (i := .iload_n 1) (k := 1) (pc' := 19) (lv' := [(0, .ref 10), (1, .int l1), (2, .int l2)]) (st' := [.int l1, .ref 13]) (by decide +kernel) rfl rfl ?_
  refine ab_fin.s1i (i := .iconst (-1)) (k := 1) (pc' := 20) (n := (-1)) (by decide +kernel) rfl (by decide +kernel) rfl ?_
  obtain ⟨e3, w⟩ := w
  refine ab_fin.q_sI (h1 := conc (((σ.wi 11 l1.toNatClampNeg l2).wi 12 l1.toNatClampNeg (0 : Int32)).wi 13 l1.toNatClampNeg (-1 : Int32))) (pc' := 21) (by decide +kernel) (c_sI' (F.s t0_13) e3 rfl) rfl ?_
  refine ab_fin.s2 (i := .aload_n 0) (k := 1) (pc' := 22) (lv' := [(0, .ref 10), (1, .int l1), (2, .int l2)]) (st' := [.ref 10]) (by decide +kernel) rfl rfl ?_
  refine ab_fin.q_rA (b := 18) (ix := 34) (ci := 6) (k := 8) (pc' := 25) (by decide +kernel) rfl (c_rA (F.s t0_10) rfl (rC_6_8 F t0_10)) rfl ?_
  refine ab_fin.s2 (i := .iload_n 1) (k := 1) (pc' := 26) (lv' := [(0, .ref 10), (1, .int l1), (2, .int l2)]) (st' := [.int l1, .ref 18]) (by decide +kernel) rfl rfl ?_
  refine ab_fin.s1i (i := .iconst 0) (k := 1) (pc' := 27) (n := 0) (by decide +kernel) rfl (by decide +kernel) rfl ?_
  obtain ⟨e4, w⟩ := w
  refine ab_fin.q_sI (h1 := conc ((((σ.wi 11 l1.toNatClampNeg l2).wi 12 l1.toNatClampNeg (0 : Int32)).wi 13 l1.toNatClampNeg (-1 : Int32)).wi 18 l1.toNatClampNeg (0 : Int32))) (pc' := 28) (by decide +kernel) (c_sI' (F.s t0_18) e4 rfl) rfl ?_
  refine ab_fin.s2 (i := .aload_n 0) (k := 1) (pc' := 29) (lv' := [(0, .ref 10), (1, .int l1), (2, .int l2)]) (st' := [.ref 10]) (by decide +kernel) rfl rfl ?_
  refine ab_fin.q_rA (b := 23) (ix := 50) (ci := 6) (k := 13) (pc' := 32) (by decide +kernel) rfl (c_rA (F.s t0_10) rfl (rC_6_13 F t0_10)) rfl ?_
  refine ab_fin.s2 (i := .iload_n 1) (k := 1) (pc' := 33) (lv' := [(0, .ref 10), (1, .int l1), (2, .int l2)]) (st' := [.int l1, .ref 23]) (by decide +kernel) rfl rfl ?_
  refine ab_fin.s7 (i := .ldc2_w 57) (k := 3) (pc' := 36) (st' := [.long (-1), .int l1, .ref 23]) (by decide +kernel) rfl rfl ?_
  obtain ⟨e5, w⟩ := w
  refine ab_fin.q_sL (h1 := conc (((((σ.wi 11 l1.toNatClampNeg l2).wi 12 l1.toNatClampNeg (0 : Int32)).wi 13 l1.toNatClampNeg (-1 : Int32)).wi 18 l1.toNatClampNeg (0 : Int32)).wl 23 l1.toNatClampNeg (-1 : Int64))) (pc' := 37) (by decide +kernel) (c_sL' (F.s t0_23) e5 rfl) rfl ?_
  refine ab_fin.s1i (i := .iconst 0) (k := 1) (pc' := 38) (n := 0) (by decide +kernel) rfl (by decide +kernel) rfl ?_
  refine ab_fin.s2 (i := .istore_n 3) (k := 1) (pc' := 39) (lv' := [(3, .int 0), (0, .ref 10), (1, .int l1), (2, .int l2)]) (st' := []) (by decide +kernel) rfl rfl ?_
  exact ab_fin.lv ⟨(List.forall_mem_cons.mpr ⟨(List.Mem.tail _ (List.Mem.head _)), (List.forall_mem_cons.mpr ⟨(List.Mem.tail _ (List.Mem.tail _ (List.Mem.head _))), (List.forall_mem_cons.mpr ⟨(List.Mem.head _), (fun _ h => absurd h List.not_mem_nil)⟩)⟩)⟩), (show ([3, 0, 1, 2] : List Nat).Nodup from by decide)⟩ w
theorem T_X5_open_39 {Z : zT} {d : Nat} {σ : Sg} {l1 : Int32} {l3 : Int32} {K : kS} (F : FX ΦC σ.sh σ.r) (w : (3 ≤ l3 → K (.inl none) σ) ∧ (¬ 3 ≤ l3 → ib ((l1 * (3 : Int32)) + l3) 366 ∧ (ib ((l1 * (3 : Int32)) + l3) 366 ∧ (ib ((l1 * (3 : Int32)) + l3) 366 ∧ (C_X5_open_39 Z (d + 1) (((σ.wi 15 (((l1 * (3 : Int32)) + l3).toNatClampNeg) (0 : Int32)).wi 16 (((l1 * (3 : Int32)) + l3).toNatClampNeg) (vp_nar .boolean (0 : Int32))).wi 17 (((l1 * (3 : Int32)) + l3).toNatClampNeg) (0 : Int32)) l1 (l3 + 1) K))))) : C_X5_open_39 Z (d + 1) σ l1 l3 K := by
  unfold C_X5_open_39
  refine ab_fin.s2 (i := .iload_n 3) (k := 1) (pc' := 40) (lv' := [(0, .ref 10), (1, .int l1), (3, .int l3)]) (st' := [.int l3]) (by decide +kernel) rfl rfl ?_
  refine ab_fin.s1i (i := .iconst 3) (k := 1) (pc' := 41) (n := 3) (by decide +kernel) rfl (by decide +kernel) rfl ?_
  refine ab_fin.br (c := 3 ≤ l3) (i := .if_icmp .ge 42) (off := 42) (t := 83) (pc' := 44) (r := []) (by decide +kernel) rfl (by decide +kernel) rfl (fun q => ?_) (fun q => ?_)
  · replace w := w.1 q
    exact ab_fin.q_ret (i := .return_) (k := 1) (v := none) (by decide +kernel) rfl F w
  · replace w := w.2 q
    refine ab_fin.s2 (i := .aload_n 0) (k := 1) (pc' := 45) (lv' := [(0, .ref 10), (1, .int l1), (3, .int l3)]) (st' := [.ref 10]) (by decide +kernel) rfl rfl ?_
    refine ab_fin.q_rA (b := 15) (ix := 24) (ci := 6) (k := 5) (pc' := 48) (by decide +kernel) rfl (c_rA (F.s t0_10) rfl (rC_6_5 F t0_10)) rfl ?_
    refine ab_fin.s2 (i := .iload_n 1) (k := 1) (pc' := 49) (lv' := [(0, .ref 10), (1, .int l1), (3, .int l3)]) (st' := [.int l1, .ref 15]) (by decide +kernel) rfl rfl ?_
    refine ab_fin.s1i (i := .iconst 3) (k := 1) (pc' := 50) (n := 3) (by decide +kernel) rfl (by decide +kernel) rfl ?_
    refine ab_fin.s1 (i := .imul) (k := 1) (pc' := 51) (st' := [.int (l1 * (3 : Int32)), .ref 15]) (by decide +kernel) rfl rfl ?_
    refine ab_fin.s2 (i := .iload_n 3) (k := 1) (pc' := 52) (lv' := [(0, .ref 10), (1, .int l1), (3, .int l3)]) (st' := [.int l3, .int (l1 * (3 : Int32)), .ref 15]) (by decide +kernel) rfl rfl ?_
    refine ab_fin.s1 (i := .iadd) (k := 1) (pc' := 53) (st' := [.int ((l1 * (3 : Int32)) + l3), .ref 15]) (by decide +kernel) rfl rfl ?_
    refine ab_fin.s1i (i := .iconst 0) (k := 1) (pc' := 54) (n := 0) (by decide +kernel) rfl (by decide +kernel) rfl ?_
    obtain ⟨e1, w⟩ := w
    refine ab_fin.q_sI (h1 := conc (σ.wi 15 (((l1 * (3 : Int32)) + l3).toNatClampNeg) (0 : Int32))) (pc' := 55) (by decide +kernel) (c_sI' (F.s t0_15) e1 rfl) rfl ?_
    refine ab_fin.s2 (i := .aload_n 0) (k := 1) (pc' := 56) (lv' := [(0, .ref 10), (1, .int l1), (3, .int l3)]) (st' := [.ref 10]) (by decide +kernel) rfl rfl ?_
    refine ab_fin.q_rA (b := 16) (ix := 27) (ci := 6) (k := 6) (pc' := 59) (by decide +kernel) rfl (c_rA (F.s t0_10) rfl (rC_6_6 F t0_10)) rfl ?_
    refine ab_fin.s2 (i := .iload_n 1) (k := 1) (pc' := 60) (lv' := [(0, .ref 10), (1, .int l1), (3, .int l3)]) (st' := [.int l1, .ref 16]) (by decide +kernel) rfl rfl ?_
    refine ab_fin.s1i (i := .iconst 3) (k := 1) (pc' := 61) (n := 3) (by decide +kernel) rfl (by decide +kernel) rfl ?_
    refine ab_fin.s1 (i := .imul) (k := 1) (pc' := 62) (st' := [.int (l1 * (3 : Int32)), .ref 16]) (by decide +kernel) rfl rfl ?_
    refine ab_fin.s2 (i := .iload_n 3) (k := 1) (pc' := 63) (lv' := [(0, .ref 10), (1, .int l1), (3, .int l3)]) (st' := [.int l3, .int (l1 * (3 : Int32)), .ref 16]) (by decide +kernel) rfl rfl ?_
    refine ab_fin.s1 (i := .iadd) (k := 1) (pc' := 64) (st' := [.int ((l1 * (3 : Int32)) + l3), .ref 16]) (by decide +kernel) rfl rfl ?_
    refine ab_fin.s1i (i := .iconst 0) (k := 1) (pc' := 65) (n := 0) (by decide +kernel) rfl (by decide +kernel) rfl ?_
    obtain ⟨e2, w⟩ := w
    refine ab_fin.q_sB (h1 := conc ((σ.wi 15 (((l1 * (3 : Int32)) + l3).toNatClampNeg) (0 : Int32)).wi 16 (((l1 * (3 : Int32)) + l3).toNatClampNeg) (vp_nar .boolean (0 : Int32)))) (pc' := 66) (by decide +kernel) (c_sB3' (F.s t0_16) e2 rfl) rfl ?_
    refine ab_fin.s2 (i := .aload_n 0) (k := 1) (pc' := 67) (lv' := [(0, .ref 10), (1, .int l1), (3, .int l3)]) (st' := [.ref 10]) (by decide +kernel) rfl rfl ?_
    refine ab_fin.q_rA (b := 17) (ix := 31) (ci := 6) (k := 7) (pc' := 70) (by decide +kernel) rfl (c_rA (F.s t0_10) rfl (rC_6_7 F t0_10)) rfl ?_
    refine ab_fin.s2 (i := .iload_n 1) (k := 1) (pc' := 71) (lv' := [(0, .ref 10), (1, .int l1), (3, .int l3)]) (st' := [.int l1, .ref 17]) (by decide +kernel) rfl rfl ?_
    refine ab_fin.s1i (i := .iconst 3) (k := 1) (pc' := 72) (n := 3) (by decide +kernel) rfl (by decide +kernel) rfl ?_
    refine ab_fin.s1 (i := .imul) (k := 1) (pc' := 73) (st' := [.int (l1 * (3 : Int32)), .ref 17]) (by decide +kernel) rfl rfl ?_
    refine ab_fin.s2 (i := .iload_n 3) (k := 1) (pc' := 74) (lv' := [(0, .ref 10), (1, .int l1), (3, .int l3)]) (st' := [.int l3, .int (l1 * (3 : Int32)), .ref 17]) (by decide +kernel) rfl rfl ?_
    refine ab_fin.s1 (i := .iadd) (k := 1) (pc' := 75) (st' := [.int ((l1 * (3 : Int32)) + l3), .ref 17]) (by decide +kernel) rfl rfl ?_
    refine ab_fin.s1i (i := .iconst 0) (k := 1) (pc' := 76) (n := 0) (by decide +kernel) rfl (by decide +kernel) rfl ?_
    obtain ⟨e3, w⟩ := w
    refine ab_fin.q_sI (h1 := conc (((σ.wi 15 (((l1 * (3 : Int32)) + l3).toNatClampNeg) (0 : Int32)).wi 16 (((l1 * (3 : Int32)) + l3).toNatClampNeg) (vp_nar .boolean (0 : Int32))).wi 17 (((l1 * (3 : Int32)) + l3).toNatClampNeg) (0 : Int32))) (pc' := 77) (by decide +kernel) (c_sI' (F.s t0_17) e3 rfl) rfl ?_
    refine ab_fin.q_inc (n := 3) (c := 1) (pc' := 80) (lv' := [(3, .int (l3 + 1)), (0, .ref 10), (1, .int l1)]) (by decide +kernel) (by decide) rfl rfl rfl rfl ?_
    refine ab_fin.s3 (i := .goto (-41)) (k := 3) (t := 39) (st' := []) (by decide +kernel) (ab_gto (by decide +kernel)) ?_
    exact ab_fin.lv ⟨(List.forall_mem_cons.mpr ⟨(List.Mem.tail _ (List.Mem.head _)), (List.forall_mem_cons.mpr ⟨(List.Mem.tail _ (List.Mem.tail _ (List.Mem.head _))), (List.forall_mem_cons.mpr ⟨(List.Mem.head _), (fun _ h => absurd h List.not_mem_nil)⟩)⟩)⟩), (show ([3, 0, 1] : List Nat).Nodup from by decide)⟩ w
theorem T_X5_addTest_0 {Z : zT} {d : Nat} {σ : Sg} {l1 : Int32} {l2 : Int32} {l3 : Int32} {l4 : Int32} {l5 : Int64} {K : kS} (F : FX ΦC σ.sh σ.r) (w : ib l1 122 ∧ (((σ.i 18 l1.toNatClampNeg) < 6 → ib ((l1 * (6 : Int32)) + (σ.i 18 l1.toNatClampNeg)) 732 ∧ (ib ((l1 * (6 : Int32)) + (σ.i 18 l1.toNatClampNeg)) 732 ∧ (ib ((l1 * (6 : Int32)) + (σ.i 18 l1.toNatClampNeg)) 732 ∧ (ib ((l1 * (6 : Int32)) + (σ.i 18 l1.toNatClampNeg)) 732 ∧ (ib l1 122 ∧ (ib l1 122 ∧ (K (.inl (some (.int (σ.i 18 l1.toNatClampNeg)))) (((((σ.wi 19 (((l1 * (6 : Int32)) + (σ.i 18 l1.toNatClampNeg)).toNatClampNeg) l2).wi 20 (((l1 * (6 : Int32)) + (σ.i 18 l1.toNatClampNeg)).toNatClampNeg) l3).wi 21 (((l1 * (6 : Int32)) + (σ.i 18 l1.toNatClampNeg)).toNatClampNeg) l4).wl 22 (((l1 * (6 : Int32)) + (σ.i 18 l1.toNatClampNeg)).toNatClampNeg) l5).wi 18 l1.toNatClampNeg ((σ.i 18 l1.toNatClampNeg) + (1 : Int32)))))))))) ∧ (¬ (σ.i 18 l1.toNatClampNeg) < 6 → K (.inl (some (.int 5))) σ))) : C_X5_addTest_0 Z (d + 1) σ l1 l2 l3 l4 l5 K := by
  unfold C_X5_addTest_0
  refine ab_fin.s2 (i := .aload_n 0) (k := 1) (pc' := 1) (lv' := [(0, .ref 10), (1, .int l1), (2, .int l2), (3, .int l3), (4, .int l4), (5, .long l5)]) (st' := [.ref 10]) (by decide +kernel) rfl rfl ?_
  refine ab_fin.q_rA (b := 18) (ix := 34) (ci := 6) (k := 8) (pc' := 4) (by decide +kernel) rfl (c_rA (F.s t0_10) rfl (rC_6_8 F t0_10)) rfl ?_
  refine ab_fin.s2 (i := .iload_n 1) (k := 1) (pc' := 5) (lv' := [(0, .ref 10), (1, .int l1), (2, .int l2), (3, .int l3), (4, .int l4), (5, .long l5)]) (st' := [.int l1, .ref 18]) (by decide +kernel) rfl rfl ?_
  obtain ⟨e1, w⟩ := w
  refine ab_fin.q_eI (x := (σ.i 18 l1.toNatClampNeg)) (pc' := 6) (by decide +kernel) (c_eI' (F.s t0_18) e1 rfl) rfl ?_
  refine ab_fin.s2 (i := .istore 7) (k := 2) (pc' := 8) (lv' := [(7, .int (σ.i 18 l1.toNatClampNeg)), (0, .ref 10), (1, .int l1), (2, .int l2), (3, .int l3), (4, .int l4), (5, .long l5)]) (st' := []) (by decide +kernel) rfl rfl ?_
  refine ab_fin.s2 (i := .iload 7) (k := 2) (pc' := 10) (lv' := [(7, .int (σ.i 18 l1.toNatClampNeg)), (0, .ref 10), (1, .int l1), (2, .int l2), (3, .int l3), (4, .int l4), (5, .long l5)]) (st' := [.int (σ.i 18 l1.toNatClampNeg)]) (by decide +kernel) rfl rfl ?_
  refine ab_fin.s1i (i := .bipush 6) (k := 2) (pc' := 12) (n := 6) (by decide +kernel) rfl (by decide +kernel) rfl ?_
  refine ab_fin.br (c := (σ.i 18 l1.toNatClampNeg) < 6) (i := .if_icmp .lt 5) (off := 5) (t := 17) (pc' := 15) (r := []) (by decide +kernel) rfl (by decide +kernel) rfl (fun q => ?_) (fun q => ?_)
  · replace w := w.1 q
    refine ab_fin.s2 (i := .iload_n 1) (k := 1) (pc' := 18) (lv' := [(7, .int (σ.i 18 l1.toNatClampNeg)), (0, .ref 10), (1, .int l1), (2, .int l2), (3, .int l3), (4, .int l4), (5, .long l5)]) (st' := [.int l1]) (by decide +kernel) rfl rfl ?_
    refine ab_fin.s1i (i := .bipush 6) (k := 2) (pc' := 20) (n := 6) (by decide +kernel) rfl (by decide +kernel) rfl ?_
    refine ab_fin.s1 (i := .imul) (k := 1) (pc' := 21) (st' := [.int (l1 * (6 : Int32))]) (by decide +kernel) rfl rfl ?_
    refine ab_fin.s2 (i := .iload 7) (k := 2) (pc' := 23) (lv' := [(7, .int (σ.i 18 l1.toNatClampNeg)), (0, .ref 10), (1, .int l1), (2, .int l2), (3, .int l3), (4, .int l4), (5, .long l5)]) (st' := [.int (σ.i 18 l1.toNatClampNeg), .int (l1 * (6 : Int32))]) (by decide +kernel) rfl rfl ?_
    refine ab_fin.s1 (i := .iadd) (k := 1) (pc' := 24) (st' := [.int ((l1 * (6 : Int32)) + (σ.i 18 l1.toNatClampNeg))]) (by decide +kernel) rfl rfl ?_
    refine ab_fin.s2 (i := .istore 8) (k := 2) (pc' := 26) (lv' := [(8, .int ((l1 * (6 : Int32)) + (σ.i 18 l1.toNatClampNeg))), (7, .int (σ.i 18 l1.toNatClampNeg)), (0, .ref 10), (1, .int l1), (2, .int l2), (3, .int l3), (4, .int l4), (5, .long l5)]) (st' := []) (by decide +kernel) rfl rfl ?_
    refine ab_fin.s2 (i := .aload_n 0) (k := 1) (pc' := 27) (lv' := [(8, .int ((l1 * (6 : Int32)) + (σ.i 18 l1.toNatClampNeg))), (7, .int (σ.i 18 l1.toNatClampNeg)), (0, .ref 10), (1, .int l1), (2, .int l2), (3, .int l3), (4, .int l4), (5, .long l5)]) (st' := [.ref 10]) (by decide +kernel) rfl rfl ?_
    refine ab_fin.q_rA (b := 19) (ix := 37) (ci := 6) (k := 9) (pc' := 30) (by decide +kernel) rfl (c_rA (F.s t0_10) rfl (rC_6_9 F t0_10)) rfl ?_
    refine ab_fin.s2 (i := .iload 8) (k := 2) (pc' := 32) (lv' := [(8, .int ((l1 * (6 : Int32)) + (σ.i 18 l1.toNatClampNeg))), (7, .int (σ.i 18 l1.toNatClampNeg)), (0, .ref 10), (1, .int l1), (2, .int l2), (3, .int l3), (4, .int l4), (5, .long l5)]) (st' := [.int ((l1 * (6 : Int32)) + (σ.i 18 l1.toNatClampNeg)), .ref 19]) (by decide +kernel) rfl rfl ?_
    refine ab_fin.s2 (i := .iload_n 2) (k := 1) (pc' := 33) (lv' := [(8, .int ((l1 * (6 : Int32)) + (σ.i 18 l1.toNatClampNeg))), (7, .int (σ.i 18 l1.toNatClampNeg)), (0, .ref 10), (1, .int l1), (2, .int l2), (3, .int l3), (4, .int l4), (5, .long l5)]) (st' := [.int l2, .int ((l1 * (6 : Int32)) + (σ.i 18 l1.toNatClampNeg)), .ref 19]) (by decide +kernel) rfl rfl ?_
    obtain ⟨e2, w⟩ := w
    refine ab_fin.q_sI (h1 := conc (σ.wi 19 (((l1 * (6 : Int32)) + (σ.i 18 l1.toNatClampNeg)).toNatClampNeg) l2)) (pc' := 34) (by decide +kernel) (c_sI' (F.s t0_19) e2 rfl) rfl ?_
    refine ab_fin.s2 (i := .aload_n 0) (k := 1) (pc' := 35) (lv' := [(8, .int ((l1 * (6 : Int32)) + (σ.i 18 l1.toNatClampNeg))), (7, .int (σ.i 18 l1.toNatClampNeg)), (0, .ref 10), (1, .int l1), (2, .int l2), (3, .int l3), (4, .int l4), (5, .long l5)]) (st' := [.ref 10]) (by decide +kernel) rfl rfl ?_
    refine ab_fin.q_rA (b := 20) (ix := 40) (ci := 6) (k := 10) (pc' := 38) (by decide +kernel) rfl (c_rA (F.s t0_10) rfl (rC_6_10 F t0_10)) rfl ?_
    refine ab_fin.s2 (i := .iload 8) (k := 2) (pc' := 40) (lv' := [(8, .int ((l1 * (6 : Int32)) + (σ.i 18 l1.toNatClampNeg))), (7, .int (σ.i 18 l1.toNatClampNeg)), (0, .ref 10), (1, .int l1), (2, .int l2), (3, .int l3), (4, .int l4), (5, .long l5)]) (st' := [.int ((l1 * (6 : Int32)) + (σ.i 18 l1.toNatClampNeg)), .ref 20]) (by decide +kernel) rfl rfl ?_
    refine ab_fin.s2 (i := .iload_n 3) (k := 1) (pc' := 41) (lv' := [(8, .int ((l1 * (6 : Int32)) + (σ.i 18 l1.toNatClampNeg))), (7, .int (σ.i 18 l1.toNatClampNeg)), (0, .ref 10), (1, .int l1), (2, .int l2), (3, .int l3), (4, .int l4), (5, .long l5)]) (st' := [.int l3, .int ((l1 * (6 : Int32)) + (σ.i 18 l1.toNatClampNeg)), .ref 20]) (by decide +kernel) rfl rfl ?_
    obtain ⟨e3, w⟩ := w
    refine ab_fin.q_sI (h1 := conc ((σ.wi 19 (((l1 * (6 : Int32)) + (σ.i 18 l1.toNatClampNeg)).toNatClampNeg) l2).wi 20 (((l1 * (6 : Int32)) + (σ.i 18 l1.toNatClampNeg)).toNatClampNeg) l3)) (pc' := 42) (by decide +kernel) (c_sI' (F.s t0_20) e3 rfl) rfl ?_
    refine ab_fin.s2 (i := .aload_n 0) (k := 1) (pc' := 43) (lv' := [(8, .int ((l1 * (6 : Int32)) + (σ.i 18 l1.toNatClampNeg))), (7, .int (σ.i 18 l1.toNatClampNeg)), (0, .ref 10), (1, .int l1), (2, .int l2), (3, .int l3), (4, .int l4), (5, .long l5)]) (st' := [.ref 10]) (by decide +kernel) rfl rfl ?_
    refine ab_fin.q_rA (b := 21) (ix := 43) (ci := 6) (k := 11) (pc' := 46) (by decide +kernel) rfl (c_rA (F.s t0_10) rfl (rC_6_11 F t0_10)) rfl ?_
    refine ab_fin.s2 (i := .iload 8) (k := 2) (pc' := 48) (lv' := [(8, .int ((l1 * (6 : Int32)) + (σ.i 18 l1.toNatClampNeg))), (7, .int (σ.i 18 l1.toNatClampNeg)), (0, .ref 10), (1, .int l1), (2, .int l2), (3, .int l3), (4, .int l4), (5, .long l5)]) (st' := [.int ((l1 * (6 : Int32)) + (σ.i 18 l1.toNatClampNeg)), .ref 21]) (by decide +kernel) rfl rfl ?_
    refine ab_fin.s2 (i := .iload 4) (k := 2) (pc' := 50) (lv' := [(8, .int ((l1 * (6 : Int32)) + (σ.i 18 l1.toNatClampNeg))), (7, .int (σ.i 18 l1.toNatClampNeg)), (0, .ref 10), (1, .int l1), (2, .int l2), (3, .int l3), (4, .int l4), (5, .long l5)]) (st' := [.int l4, .int ((l1 * (6 : Int32)) + (σ.i 18 l1.toNatClampNeg)), .ref 21]) (by decide +kernel) rfl rfl ?_
    obtain ⟨e4, w⟩ := w
    refine ab_fin.q_sI (h1 := conc (((σ.wi 19 (((l1 * (6 : Int32)) + (σ.i 18 l1.toNatClampNeg)).toNatClampNeg) l2).wi 20 (((l1 * (6 : Int32)) + (σ.i 18 l1.toNatClampNeg)).toNatClampNeg) l3).wi 21 (((l1 * (6 : Int32)) + (σ.i 18 l1.toNatClampNeg)).toNatClampNeg) l4)) (pc' := 51) (by decide +kernel) (c_sI' (F.s t0_21) e4 rfl) rfl ?_
    refine ab_fin.s2 (i := .aload_n 0) (k := 1) (pc' := 52) (lv' := [(8, .int ((l1 * (6 : Int32)) + (σ.i 18 l1.toNatClampNeg))), (7, .int (σ.i 18 l1.toNatClampNeg)), (0, .ref 10), (1, .int l1), (2, .int l2), (3, .int l3), (4, .int l4), (5, .long l5)]) (st' := [.ref 10]) (by decide +kernel) rfl rfl ?_
    refine ab_fin.q_rA (b := 22) (ix := 46) (ci := 6) (k := 12) (pc' := 55) (by decide +kernel) rfl (c_rA (F.s t0_10) rfl (rC_6_12 F t0_10)) rfl ?_
    refine ab_fin.s2 (i := .iload 8) (k := 2) (pc' := 57) (lv' := [(8, .int ((l1 * (6 : Int32)) + (σ.i 18 l1.toNatClampNeg))), (7, .int (σ.i 18 l1.toNatClampNeg)), (0, .ref 10), (1, .int l1), (2, .int l2), (3, .int l3), (4, .int l4), (5, .long l5)]) (st' := [.int ((l1 * (6 : Int32)) + (σ.i 18 l1.toNatClampNeg)), .ref 22]) (by decide +kernel) rfl rfl ?_
    refine ab_fin.s2 (i := .lload 5) (k := 2) (pc' := 59) (lv' := [(8, .int ((l1 * (6 : Int32)) + (σ.i 18 l1.toNatClampNeg))), (7, .int (σ.i 18 l1.toNatClampNeg)), (0, .ref 10), (1, .int l1), (2, .int l2), (3, .int l3), (4, .int l4), (5, .long l5)]) (st' := [.long l5, .int ((l1 * (6 : Int32)) + (σ.i 18 l1.toNatClampNeg)), .ref 22]) (by decide +kernel) rfl rfl ?_
    obtain ⟨e5, w⟩ := w
    refine ab_fin.q_sL (h1 := conc ((((σ.wi 19 (((l1 * (6 : Int32)) + (σ.i 18 l1.toNatClampNeg)).toNatClampNeg) l2).wi 20 (((l1 * (6 : Int32)) + (σ.i 18 l1.toNatClampNeg)).toNatClampNeg) l3).wi 21 (((l1 * (6 : Int32)) + (σ.i 18 l1.toNatClampNeg)).toNatClampNeg) l4).wl 22 (((l1 * (6 : Int32)) + (σ.i 18 l1.toNatClampNeg)).toNatClampNeg) l5)) (pc' := 60) (by decide +kernel) (c_sL' (F.s t0_22) e5 rfl) rfl ?_
    refine ab_fin.s2 (i := .aload_n 0) (k := 1) (pc' := 61) (lv' := [(8, .int ((l1 * (6 : Int32)) + (σ.i 18 l1.toNatClampNeg))), (7, .int (σ.i 18 l1.toNatClampNeg)), (0, .ref 10), (1, .int l1), (2, .int l2), (3, .int l3), (4, .int l4), (5, .long l5)]) (st' := [.ref 10]) (by decide +kernel) rfl rfl ?_
    refine ab_fin.q_rA (b := 18) (ix := 34) (ci := 6) (k := 8) (pc' := 64) (by decide +kernel) rfl (c_rA (F.s t0_10) rfl (rC_6_8 F t0_10)) rfl ?_
    refine ab_fin.s2 (i := .iload_n 1) (k := 1) (pc' := 65) (lv' := [(8, .int ((l1 * (6 : Int32)) + (σ.i 18 l1.toNatClampNeg))), (7, .int (σ.i 18 l1.toNatClampNeg)), (0, .ref 10), (1, .int l1), (2, .int l2), (3, .int l3), (4, .int l4), (5, .long l5)]) (st' := [.int l1, .ref 18]) (by decide +kernel) rfl rfl ?_
    refine ab_fin.s1 (i := .dup2) (k := 1) (pc' := 66) (st' := [.int l1, .ref 18, .int l1, .ref 18]) (by decide +kernel) rfl rfl ?_
    obtain ⟨e6, w⟩ := w
    refine ab_fin.q_eI (x := (σ.i 18 l1.toNatClampNeg)) (pc' := 67) (by decide +kernel) (c_eI' (F.s t0_18) e6 rfl) rfl ?_
    refine ab_fin.s1i (i := .iconst 1) (k := 1) (pc' := 68) (n := 1) (by decide +kernel) rfl (by decide +kernel) rfl ?_
    refine ab_fin.s1 (i := .iadd) (k := 1) (pc' := 69) (st' := [.int ((σ.i 18 l1.toNatClampNeg) + (1 : Int32)), .int l1, .ref 18]) (by decide +kernel) rfl rfl ?_
    obtain ⟨e7, w⟩ := w
    refine ab_fin.q_sI (h1 := conc (((((σ.wi 19 (((l1 * (6 : Int32)) + (σ.i 18 l1.toNatClampNeg)).toNatClampNeg) l2).wi 20 (((l1 * (6 : Int32)) + (σ.i 18 l1.toNatClampNeg)).toNatClampNeg) l3).wi 21 (((l1 * (6 : Int32)) + (σ.i 18 l1.toNatClampNeg)).toNatClampNeg) l4).wl 22 (((l1 * (6 : Int32)) + (σ.i 18 l1.toNatClampNeg)).toNatClampNeg) l5).wi 18 l1.toNatClampNeg ((σ.i 18 l1.toNatClampNeg) + (1 : Int32)))) (pc' := 70) (by decide +kernel) (c_sI' (F.s t0_18) e7 rfl) rfl ?_
    refine ab_fin.s2 (i := .iload 7) (k := 2) (pc' := 72) (lv' := [(8, .int ((l1 * (6 : Int32)) + (σ.i 18 l1.toNatClampNeg))), (7, .int (σ.i 18 l1.toNatClampNeg)), (0, .ref 10), (1, .int l1), (2, .int l2), (3, .int l3), (4, .int l4), (5, .long l5)]) (st' := [.int (σ.i 18 l1.toNatClampNeg)]) (by decide +kernel) rfl rfl ?_
    exact ab_fin.q_ret (i := .ireturn) (k := 1) (v := some (.int (σ.i 18 l1.toNatClampNeg))) (by decide +kernel) rfl F w
  · replace w := w.2 q
    refine ab_fin.s1i (i := .iconst 5) (k := 1) (pc' := 16) (n := 5) (by decide +kernel) rfl (by decide +kernel) rfl ?_
    exact ab_fin.q_ret (i := .ireturn) (k := 1) (v := some (.int 5)) (by decide +kernel) rfl F w
